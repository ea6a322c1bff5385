def f0_beginAgain_b30 : Nat → Int32 → Sg → Option (Sg)
  | 0, _, _ => none
  | n + 1, x1, g =>
    if (8 : Int32) ≤ x1 then
      nx (pu g 5 0 (0 : Int32)) fun g2 =>
      some g2
    else
      ix x1 8 <|
      nx (pu g 2 (x1.toNatClampNeg) (0 : Int32)) fun g4 =>
      ix x1 8 <|
      nx (pu g4 3 (x1.toNatClampNeg) (0 : Int32)) fun g6 =>
      ix x1 8 <|
      nx (pu g6 4 (x1.toNatClampNeg) (0 : Int32)) fun g8 =>
      nx (x1 + (1 : Int32)) fun v9 =>
      f0_beginAgain_b30 n v9 g8
def f0_beginAgain_b2 : Nat → Int32 → Sg → Option (Sg)
  | 0, _, _ => none
  | n + 1, x1, g =>
    if (6 : Int32) ≤ x1 then
      f0_beginAgain_b30 1000 (0 : Int32) g
    else
      ix x1 6 <|
      nx (pu g 0 (x1.toNatClampNeg) (0 : Int32)) fun g12 =>
      ix x1 6 <|
      nx (pu g12 1 (x1.toNatClampNeg) (0 : Int32)) fun g14 =>
      nx (x1 + (1 : Int32)) fun v15 =>
      f0_beginAgain_b2 n v15 g14
def f0_beginAgain (g : Sg) : Option (Sg) :=
  f0_beginAgain_b2 1000 (0 : Int32) g
def f0_become (b1 : Nat) (b2 : Nat) (g : Sg) : Option (Sg) :=
  nx (pr g (6 * b1) (va_cpy (g.1 (6 * b2)) (g.1 (6 * b1)) 0 0 6)) fun g1 =>
  nx (pr g1 (6 * b1 + 1) (va_cpy (g1.1 (6 * b2 + 1)) (g1.1 (6 * b1 + 1)) 0 0 6)) fun g2 =>
  nx (pr g2 (6 * b1 + 2) (va_cpy (g2.1 (6 * b2 + 2)) (g2.1 (6 * b1 + 2)) 0 0 8)) fun g3 =>
  nx (pr g3 (6 * b1 + 3) (va_cpy (g3.1 (6 * b2 + 3)) (g3.1 (6 * b1 + 3)) 0 0 8)) fun g4 =>
  nx (pr g4 (6 * b1 + 4) (va_cpy (g4.1 (6 * b2 + 4)) (g4.1 (6 * b1 + 4)) 0 0 8)) fun g5 =>
  nx (pu g5 (6 * b1 + 5) 0 (g5.1 (6 * b2 + 5) 0)) fun g6 =>
  some g6
def f1_empty (g : Sg) : Option (Sg) :=
  nx (pu g 123 1 (0 : Int32)) fun g1 =>
  some g1
def f1_remember_b63 (y0 : Int32) (g : Sg) : Option (Sg) :=
  nx (pu g 123 0 y0) fun g1 =>
  nx (pu g1 123 1 (if ((g1.1 123 1) + (1 : Int32)) < (10 : Int32) then ((g1.1 123 1) + (1 : Int32)) else (10 : Int32))) fun g2 =>
  some g2
def f1_remember (g : Sg) : Option (Sg) :=
  if (g.1 123 0) < 0 then
    some g
  else
    if (10 : Int32) ≤ (g.1 123 0) then
      some g
    else
      ix (g.1 123 0) 10 <|
      ix (g.1 123 0) 10 <|
      bd (f0_become (((g.1 123 0)).toNatClampNeg + 3) 0 g) fun g8 =>
      if (10 : Int32) ≤ ((g8.1 123 0) + (1 : Int32)) then
        f1_remember_b63 (0 : Int32) g8
      else
        f1_remember_b63 ((g8.1 123 0) + (1 : Int32)) g8
def f1_giveBack_b18 (y0 : Int32) (g : Sg) : Option (Sg) :=
  if (g.1 123 1) ≤ 0 then
    some g
  else
    if (10 : Int32) ≤ y0 then
      some g
    else
      ix y0 10 <|
      ix y0 10 <|
      bd (f0_become 0 (y0.toNatClampNeg + 3) g) fun g6 =>
      nx (pu g6 123 0 y0) fun g7 =>
      nx (pu g7 123 1 ((g7.1 123 1) - (1 : Int32))) fun g8 =>
      some g8
def f1_giveBack (g : Sg) : Option (Sg) :=
  if (g.1 123 0) ≤ 0 then
    f1_giveBack_b18 (9 : Int32) g
  else
    f1_giveBack_b18 ((g.1 123 0) - (1 : Int32)) g
def f4_beginAgain (g : Sg) : Option (Sg) :=
  nx (pu g 110 0 (0 : Int32)) fun g1 =>
  nx (pu g1 110 1 (0 : Int32)) fun g2 =>
  nx (pu g2 110 2 (10 : Int32)) fun g3 =>
  nx (pu g3 110 3 (12 : Int32)) fun g4 =>
  some g4
def f3_toFront (g : Sg) : Option (Sg) :=
  nx (pu g 121 3 (0 : Int32)) fun g1 =>
  some g1
def f3_letterAt (x1 : Int32) (g : Sg) : Option (Int32 × Sg) :=
  if x1 < 0 then
    some ((-1 : Int32), g)
  else
    if (g.1 121 0) ≤ x1 then
      some ((-1 : Int32), g)
    else
      if (200 : Int32) ≤ x1 then
        some ((-1 : Int32), g)
      else
        ix x1 200 <|
        some ((g.1 120 (x1.toNatClampNeg)), g)
def f3_isDigit (x0 : Int32) (g : Sg) : Option (Int32 × Sg) :=
  if x0 < (48 : Int32) then
    rz (0 : Int32) g
  else
    if (57 : Int32) < x0 then
      rz (0 : Int32) g
    else
      rz (1 : Int32) g
def f3_readDigits_b132 (y0 : Int32) (g : Sg) : Option (Sg) :=
  nx (pu g 121 1 y0) fun g1 =>
  some g1
def f3_readDigits_b125 (g : Sg) : Option (Sg) :=
  f3_readDigits_b132 (-2 : Int32) g
def f3_readDigits_b110 (y0 : Int32) (g : Sg) : Option (Sg) :=
  if y0 = 0 then
    if (g.1 121 4) = (100 : Int32) then
      f3_readDigits_b125 g
    else
      f3_readDigits_b132 (48 : Int32) g
  else
    f3_readDigits_b125 g
def f3_readDigits_b109 (g : Sg) : Option (Sg) :=
  f3_readDigits_b110 (0 : Int32) g
def f3_readDigits_b79 (g : Sg) : Option (Sg) :=
  bd2 (f3_letterAt (g.1 121 2) g) fun r6 g5 =>
  if r6 = (48 : Int32) then
    if (g5.1 121 3) ≤ ((g5.1 121 2) + (1 : Int32)) then
      f3_readDigits_b109 g5
    else
      f3_readDigits_b110 (1 : Int32) g5
  else
    f3_readDigits_b109 g5
def f3_readDigits_b13 : Nat → Sg → Option (Sg)
  | 0, _ => none
  | n + 1, g =>
    if (g.1 121 0) ≤ (g.1 121 3) then
      f3_readDigits_b79 g
    else
      bd2 (f3_letterAt (g.1 121 3) g) fun r12 g11 =>
      bd2 (f3_isDigit r12 g11) fun r15 g14 =>
      if r15 = 0 then
        f3_readDigits_b79 g14
      else
        bd2 (f3_letterAt (g14.1 121 3) g14) fun r19 g18 =>
        nx (pu g18 121 4 (if ((((g14.1 121 4) * (10 : Int32)) + r19) - (48 : Int32)) < (100 : Int32) then ((((g14.1 121 4) * (10 : Int32)) + r19) - (48 : Int32)) else (100 : Int32))) fun g20 =>
        nx (pu g20 121 3 ((g20.1 121 3) + (1 : Int32))) fun g21 =>
        f3_readDigits_b13 n g21
def f3_readDigits (g : Sg) : Option (Sg) :=
  nx (pu g 121 4 (0 : Int32)) fun g22 =>
  nx (pu g22 121 3 (g22.1 121 2)) fun g23 =>
  f3_readDigits_b13 1000 g23
def f3_readToken_b140 (x1 : Int32) (g : Sg) : Option (Sg) :=
  nx (pu g 121 1 x1) fun g1 =>
  some g1
def f3_readToken_b45 (g : Sg) : Option (Sg) :=
  nx (pu g 121 3 (if (g.1 121 0) < ((g.1 121 2) + (1 : Int32)) then (g.1 121 0) else ((g.1 121 2) + (1 : Int32)))) fun g2 =>
  bd2 (f3_letterAt (g2.1 121 2) g2) fun r5 g4 =>
  if r5 = (-1 : Int32) then
    f3_readToken_b140 r5 g4
  else
  if r5 = (59 : Int32) then
    f3_readToken_b140 r5 g4
  else
  if r5 = (97 : Int32) then
    f3_readToken_b140 r5 g4
  else
  if r5 = (109 : Int32) then
    f3_readToken_b140 r5 g4
  else
  if r5 = (112 : Int32) then
    f3_readToken_b140 r5 g4
  else
  if r5 = (115 : Int32) then
    f3_readToken_b140 r5 g4
  else
  if r5 = (120 : Int32) then
    f3_readToken_b140 r5 g4
  else
  nx (pu g4 121 1 (-2 : Int32)) fun g13 =>
  bd2 (f3_isDigit r5 g13) fun r16 g15 =>
  if r16 = 0 then
    some g15
  else
    bd (f3_readDigits g15) fun g19 =>
    some g19
def f3_readToken_b8 : Nat → Sg → Option (Sg)
  | 0, _ => none
  | n + 1, g =>
    if (g.1 121 0) ≤ (g.1 121 2) then
      f3_readToken_b45 g
    else
      bd2 (f3_letterAt (g.1 121 2) g) fun r23 g22 =>
      if r23 = (32 : Int32) then
        nx (pu g22 121 2 ((g22.1 121 2) + (1 : Int32))) fun g25 =>
        f3_readToken_b8 n g25
      else
        f3_readToken_b45 g22
def f3_readToken (g : Sg) : Option (Sg) :=
  nx (pu g 121 2 (g.1 121 3)) fun g26 =>
  f3_readToken_b8 1000 g26
def f2_readNumber (x1 : Int32) (x2 : Int32) (g : Sg) : Option (Int32 × Sg) :=
  bd (f3_readToken g) fun g2 =>
  if (g2.1 121 1) = (48 : Int32) then
    if (g2.1 121 4) < x1 then
      rz (0 : Int32) g2
    else
      if x2 < (g2.1 121 4) then
        rz (0 : Int32) g2
      else
        rz (1 : Int32) g2
  else
    rz (0 : Int32) g2
def f2_readEnd (g : Sg) : Option (Int32 × Sg) :=
  bd (f3_readToken g) fun g2 =>
  if (g2.1 121 1) = (59 : Int32) then
    rz (1 : Int32) g2
  else
    rz (0 : Int32) g2
def f2_readPerson_b109 (y0 : Int32) (y1 : Int32) (g : Sg) : Option (Int32 × Sg) :=
  ix y1 6 <|
  nx (pu g 101 (y1.toNatClampNeg) y0) fun g2 =>
  nx (pu g2 110 0 ((g2.1 110 0) + (1 : Int32))) fun g3 =>
  bd2 (f2_readEnd g3) fun r6 g5 =>
  rz r6 g5
def f2_readPerson_b77 (x1 : Int32) (g : Sg) : Option (Int32 × Sg) :=
  if (g.1 121 4) = (9 : Int32) then
    f2_readPerson_b109 (-9 : Int32) x1 g
  else
    f2_readPerson_b109 (g.1 121 4) x1 g
def f2_readPerson (g : Sg) : Option (Int32 × Sg) :=
  nx (g.1 110 0) fun v8 =>
  if (6 : Int32) ≤ v8 then
    rz (0 : Int32) g
  else
    bd2 (f2_readNumber (0 : Int32) (99 : Int32) g) fun r12 g11 =>
    if r12 = 0 then
      rz (0 : Int32) g11
    else
      ix v8 6 <|
      nx (pu g11 100 (v8.toNatClampNeg) (g11.1 121 4)) fun g15 =>
      bd2 (f2_readNumber (0 : Int32) (9 : Int32) g15) fun r18 g17 =>
      if r18 = 0 then
        rz (0 : Int32) g17
      else
        if (g17.1 121 4) < v8 then
          f2_readPerson_b77 v8 g17
        else
          if (g17.1 121 4) = (9 : Int32) then
            f2_readPerson_b77 v8 g17
          else
            rz (0 : Int32) g17
def f2_readWords_b2 : Nat → Int32 → Int32 → Sg → Option (Int32 × Sg)
  | 0, _, _, _ => none
  | n + 1, x1, x2, g =>
    if (4 : Int32) < x2 then
      rz (0 : Int32) g
    else
      bd (f3_readToken g) fun g3 =>
      if (g3.1 121 1) = (59 : Int32) then
        if x2 ≤ 0 then
          rz (0 : Int32) g3
        else
          rz (1 : Int32) g3
      else
        if (g3.1 121 1) = (48 : Int32) then
          if (9 : Int32) < (g3.1 121 4) then
            rz (0 : Int32) g3
          else
            if x2 = (4 : Int32) then
              rz (0 : Int32) g3
            else
              ix ((x1 * (4 : Int32)) + x2) 32 <|
              nx (pu g3 108 ((((x1 * (4 : Int32)) + x2)).toNatClampNeg) (g3.1 121 4)) fun g9 =>
              ix x1 8 <|
              nx (pu g9 107 (x1.toNatClampNeg) (x2 + (1 : Int32))) fun g11 =>
              nx (x2 + (1 : Int32)) fun v12 =>
              f2_readWords_b2 n x1 v12 g11
        else
          rz (0 : Int32) g3
def f2_readWords (x1 : Int32) (g : Sg) : Option (Int32 × Sg) :=
  f2_readWords_b2 1000 x1 (0 : Int32) g
def f2_readPromise (g : Sg) : Option (Int32 × Sg) :=
  nx (g.1 110 1) fun v1 =>
  if (8 : Int32) ≤ v1 then
    rz (0 : Int32) g
  else
    bd2 (f2_readNumber (0 : Int32) ((g.1 110 0) - (1 : Int32)) g) fun r5 g4 =>
    if r5 = 0 then
      rz (0 : Int32) g4
    else
      ix v1 8 <|
      nx (pu g4 102 (v1.toNatClampNeg) (g4.1 121 4)) fun g8 =>
      bd2 (f2_readNumber (0 : Int32) (5 : Int32) g8) fun r11 g10 =>
      if r11 = 0 then
        rz (0 : Int32) g10
      else
        ix v1 8 <|
        nx (pu g10 103 (v1.toNatClampNeg) (g10.1 121 4)) fun g14 =>
        bd2 (f2_readNumber (0 : Int32) (5 : Int32) g14) fun r17 g16 =>
        if r17 = 0 then
          rz (0 : Int32) g16
        else
          ix v1 8 <|
          nx (pu g16 104 (v1.toNatClampNeg) (g16.1 121 4)) fun g20 =>
          bd2 (f2_readNumber (1 : Int32) (9 : Int32) g20) fun r23 g22 =>
          if r23 = 0 then
            rz (0 : Int32) g22
          else
            ix v1 8 <|
            nx (pu g22 105 (v1.toNatClampNeg) (g22.1 121 4)) fun g26 =>
            bd2 (f2_readNumber (0 : Int32) (99 : Int32) g26) fun r29 g28 =>
            if r29 = 0 then
              rz (0 : Int32) g28
            else
              ix v1 8 <|
              nx (pu g28 106 (v1.toNatClampNeg) (g28.1 121 4)) fun g32 =>
              ix v1 8 <|
              nx (pu g32 109 (v1.toNatClampNeg) (0 : Int32)) fun g34 =>
              nx (pu g34 110 1 ((g34.1 110 1) + (1 : Int32))) fun g35 =>
              bd2 (f2_readWords v1 g35) fun r38 g37 =>
              rz r38 g37
def f2_readClash (g : Sg) : Option (Int32 × Sg) :=
  bd2 (f2_readNumber (0 : Int32) ((g.1 110 1) - (1 : Int32)) g) fun r3 g2 =>
  if r3 = 0 then
    rz (0 : Int32) g2
  else
    nx (g2.1 121 4) fun v5 =>
    bd2 (f2_readNumber (0 : Int32) ((g2.1 110 1) - (1 : Int32)) g2) fun r8 g7 =>
    if r8 = 0 then
      rz (0 : Int32) g7
    else
      if (g7.1 121 4) = v5 then
        rz (0 : Int32) g7
      else
        nx (g7.1 121 4) fun v11 =>
        ix v5 8 <|
        ix v5 8 <|
        nx (pu g7 109 (v5.toNatClampNeg) ((g7.1 109 (v5.toNatClampNeg)) ||| ((1 : Int32) <<< (v11 &&& 31)))) fun g14 =>
        ix v11 8 <|
        ix v11 8 <|
        nx (pu g14 109 (v11.toNatClampNeg) ((g14.1 109 (v11.toNatClampNeg)) ||| ((1 : Int32) <<< (v5 &&& 31)))) fun g17 =>
        bd2 (f2_readEnd g17) fun r20 g19 =>
        rz r20 g19
def f2_readAcid (g : Sg) : Option (Int32 × Sg) :=
  if (g.1 122 0) = 0 then
    bd2 (f2_readNumber (1 : Int32) (20 : Int32) g) fun r4 g3 =>
    if r4 = 0 then
      rz (0 : Int32) g3
    else
      nx (pu g3 122 0 (1 : Int32)) fun g6 =>
      nx (pu g6 110 2 (g6.1 121 4)) fun g7 =>
      bd2 (f2_readEnd g7) fun r10 g9 =>
      rz r10 g9
  else
    rz (0 : Int32) g
def f2_readSlide (g : Sg) : Option (Int32 × Sg) :=
  if (g.1 122 1) = 0 then
    bd2 (f2_readNumber (1 : Int32) (27 : Int32) g) fun r4 g3 =>
    if r4 = 0 then
      rz (0 : Int32) g3
    else
      nx (pu g3 122 1 (1 : Int32)) fun g6 =>
      nx (pu g6 110 3 (g6.1 121 4)) fun g7 =>
      bd2 (f2_readEnd g7) fun r10 g9 =>
      rz r10 g9
  else
    rz (0 : Int32) g
def f2_readAll_b161 (g : Sg) : Option (Int32 × Sg) :=
  some (((-10 : Int32) - (g.1 121 2)), g)
def f2_readAll_b148 (k26 : Int32 → Sg → Option (Int32 × Sg)) (x1 : Int32) (x2 : Int32) (g : Sg) : Option (Int32 × Sg) :=
  if x2 = 0 then
    f2_readAll_b161 g
  else
    nx (x1 + (1 : Int32)) fun v2 =>
    k26 v2 g
def f2_readAll_b26 : Nat → Int32 → Sg → Option (Int32 × Sg)
  | 0, _, _ => none
  | n + 1, x1, g =>
    if (200 : Int32) < x1 then
      f2_readAll_b161 g
    else
      bd (f3_readToken g) fun g5 =>
      if (g5.1 121 1) = (-1 : Int32) then
        some (x1, g5)
      else
      if (g5.1 121 1) = (97 : Int32) then
        bd2 (f2_readAcid g5) fun r10 g9 =>
        f2_readAll_b148 (f2_readAll_b26 n) x1 r10 g9
      else
      if (g5.1 121 1) = (109 : Int32) then
        bd2 (f2_readPromise g5) fun r14 g13 =>
        f2_readAll_b148 (f2_readAll_b26 n) x1 r14 g13
      else
      if (g5.1 121 1) = (112 : Int32) then
        bd2 (f2_readPerson g5) fun r18 g17 =>
        f2_readAll_b148 (f2_readAll_b26 n) x1 r18 g17
      else
      if (g5.1 121 1) = (115 : Int32) then
        bd2 (f2_readSlide g5) fun r22 g21 =>
        f2_readAll_b148 (f2_readAll_b26 n) x1 r22 g21
      else
      if (g5.1 121 1) = (120 : Int32) then
        bd2 (f2_readClash g5) fun r26 g25 =>
        f2_readAll_b148 (f2_readAll_b26 n) x1 r26 g25
      else
      f2_readAll_b148 (f2_readAll_b26 n) x1 (0 : Int32) g5
def f2_readAll (g : Sg) : Option (Int32 × Sg) :=
  bd (f4_beginAgain g) fun g28 =>
  nx (pu g28 122 0 (0 : Int32)) fun g29 =>
  nx (pu g29 122 1 (0 : Int32)) fun g30 =>
  bd (f3_toFront g30) fun g32 =>
  f2_readAll_b26 1000 (0 : Int32) g32
def f3_add (x1 : Int32) (g : Sg) : Option (Int32 × Sg) :=
  if (g.1 121 0) < 0 then
    rz (0 : Int32) g
  else
    if (g.1 121 0) < (200 : Int32) then
      ix (g.1 121 0) 200 <|
      nx (pu g 120 (((g.1 121 0)).toNatClampNeg) x1) fun g4 =>
      nx (pu g4 121 0 ((g4.1 121 0) + (1 : Int32))) fun g5 =>
      rz (1 : Int32) g5
    else
      rz (0 : Int32) g
def f4_become (g : Sg) : Option (Sg) :=
  nx (pr g 80 (va_cpy (g.1 100) (g.1 80) 0 0 6)) fun g1 =>
  nx (pr g1 81 (va_cpy (g1.1 101) (g1.1 81) 0 0 6)) fun g2 =>
  nx (pr g2 82 (va_cpy (g2.1 102) (g2.1 82) 0 0 8)) fun g3 =>
  nx (pr g3 83 (va_cpy (g3.1 103) (g3.1 83) 0 0 8)) fun g4 =>
  nx (pr g4 84 (va_cpy (g4.1 104) (g4.1 84) 0 0 8)) fun g5 =>
  nx (pr g5 85 (va_cpy (g5.1 105) (g5.1 85) 0 0 8)) fun g6 =>
  nx (pr g6 86 (va_cpy (g6.1 106) (g6.1 86) 0 0 8)) fun g7 =>
  nx (pr g7 87 (va_cpy (g7.1 107) (g7.1 87) 0 0 8)) fun g8 =>
  nx (pr g8 88 (va_cpy (g8.1 108) (g8.1 88) 0 0 32)) fun g9 =>
  nx (pr g9 89 (va_cpy (g9.1 109) (g9.1 89) 0 0 8)) fun g10 =>
  nx (pu g10 90 0 (g10.1 110 0)) fun g11 =>
  nx (pu g11 90 1 (g11.1 110 1)) fun g12 =>
  nx (pu g12 90 2 (g12.1 110 2)) fun g13 =>
  nx (pu g13 90 3 (g13.1 110 3)) fun g14 =>
  some g14
def f4_hasPerson (x1 : Int32) (g : Sg) : Option (Int32 × Sg) :=
  if x1 < 0 then
    rz (0 : Int32) g
  else
    if (g.1 90 0) ≤ x1 then
      rz (0 : Int32) g
    else
      if (6 : Int32) ≤ x1 then
        rz (0 : Int32) g
      else
        rz (1 : Int32) g
def f4_hasPromise (x1 : Int32) (g : Sg) : Option (Int32 × Sg) :=
  if x1 < 0 then
    rz (0 : Int32) g
  else
    if (g.1 90 1) ≤ x1 then
      rz (0 : Int32) g
    else
      if (8 : Int32) ≤ x1 then
        rz (0 : Int32) g
      else
        rz (1 : Int32) g
def f4_wordAt (x1 : Int32) (x2 : Int32) (g : Sg) : Option (Int32 × Sg) :=
  bd2 (f4_hasPromise x1 g) fun r3 g2 =>
  if r3 = 0 then
    some ((-9 : Int32), g2)
  else
    if x2 < 0 then
      some ((-9 : Int32), g2)
    else
      ix x1 8 <|
      if (g2.1 87 (x1.toNatClampNeg)) ≤ x2 then
        some ((-9 : Int32), g2)
      else
        if (4 : Int32) ≤ x2 then
          some ((-9 : Int32), g2)
        else
          ix ((x1 * (4 : Int32)) + x2) 32 <|
          some ((g2.1 88 ((((x1 * (4 : Int32)) + x2)).toNatClampNeg)), g2)
def f5_type (x1 : Int32) (g : Sg) : Option (Int32 × Sg) :=
  if x1 < 0 then
    some ((-1 : Int32), g)
  else
    if x1 ≤ (255 : Int32) then
      bd2 (f3_add x1 g) fun r5 g4 =>
      if r5 = 0 then
        some ((-3 : Int32), g4)
      else
        some ((g4.1 121 0), g4)
    else
      some ((-1 : Int32), g)
def f5_clear (g : Sg) : Option (Int32 × Sg) :=
  nx (g.1 121 0) fun v1 =>
  nx (pu g 121 0 (0 : Int32)) fun g2 =>
  some (v1, g2)
def f5_moss_b60 : Nat → Int32 → Int32 → Sg → Option (Int32 × Sg)
  | 0, _, _, _ => none
  | n + 1, x1, x2, g =>
    if (2 : Int32) ≤ x2 then
      some (x1, g)
    else
      ix x2 2 <|
      nx (pu g 133 (x2.toNatClampNeg) (0 : Int32)) fun g3 =>
      nx (x2 + (1 : Int32)) fun v4 =>
      f5_moss_b60 n x1 v4 g3
def f5_moss (g : Sg) : Option (Int32 × Sg) :=
  bd2 (f2_readAll g) fun r7 g6 =>
  if 0 ≤ r7 then
    bd (f4_become g6) fun g10 =>
    nx (pu g10 121 0 (0 : Int32)) fun g11 =>
    bd (f0_beginAgain g11) fun g13 =>
    bd (f1_empty g13) fun g15 =>
    nx (pu g15 134 0 (0 : Int32)) fun g16 =>
    f5_moss_b60 1000 r7 (0 : Int32) g16
  else
    some (r7, g6)
def f5_person (x1 : Int32) (x2 : Int32) (g : Sg) : Option (Int32 × Sg) :=
  bd2 (f4_hasPerson x1 g) fun r3 g2 =>
  if r3 = 0 then
    some ((-1 : Int32), g2)
  else
    if x2 = (0 : Int32) then
      ix x1 6 <|
      some ((g2.1 80 (x1.toNatClampNeg)), g2)
    else
    if x2 = (1 : Int32) then
      ix x1 6 <|
      some ((g2.1 81 (x1.toNatClampNeg)), g2)
    else
    some ((-1 : Int32), g2)
def f5_promise (x1 : Int32) (x2 : Int32) (g : Sg) : Option (Int32 × Sg) :=
  bd2 (f4_hasPromise x1 g) fun r3 g2 =>
  if r3 = 0 then
    some ((-1 : Int32), g2)
  else
    if x2 = (0 : Int32) then
      ix x1 8 <|
      some ((g2.1 82 (x1.toNatClampNeg)), g2)
    else
    if x2 = (1 : Int32) then
      ix x1 8 <|
      some ((g2.1 83 (x1.toNatClampNeg)), g2)
    else
    if x2 = (2 : Int32) then
      ix x1 8 <|
      some ((g2.1 84 (x1.toNatClampNeg)), g2)
    else
    if x2 = (3 : Int32) then
      ix x1 8 <|
      some ((g2.1 85 (x1.toNatClampNeg)), g2)
    else
    if x2 = (4 : Int32) then
      ix x1 8 <|
      some ((g2.1 86 (x1.toNatClampNeg)), g2)
    else
    if x2 = (5 : Int32) then
      ix x1 8 <|
      some ((g2.1 87 (x1.toNatClampNeg)), g2)
    else
    if x2 = (6 : Int32) then
      ix x1 8 <|
      some ((g2.1 89 (x1.toNatClampNeg)), g2)
    else
    if x2 = (7 : Int32) then
      ix x1 8 <|
      some ((g2.1 2 (x1.toNatClampNeg)), g2)
    else
    some ((-1 : Int32), g2)
def f5_lyingLeft_b27 (x1 : Int32) (x4 : Int32) (y0 : Int32) (g : Sg) : Option (Int32 × Sg) :=
  some ((if (1 : Int32) < ((x1 - y0) - x4) then ((x1 - y0) - x4) else (1 : Int32)), g)
def f5_lyingLeft (x1 : Int32) (x2 : Int32) (x3 : Int32) (x4 : Int32) (g : Sg) : Option (Int32 × Sg) :=
  if (g.1 90 2) ≤ 0 then
    f5_lyingLeft_b27 x1 x4 (0 : Int32) g
  else
    nz (g.1 90 2) <|
    f5_lyingLeft_b27 x1 x4 ((x3 * (x2 + (1 : Int32))) / (g.1 90 2)) g
def f5_leftIn (x1 : Int32) (x2 : Int32) (g : Sg) : Option (Int32 × Sg) :=
  bd2 (f4_hasPromise x1 g) fun r3 g2 =>
  if r3 = 0 then
    some ((0 : Int32), g2)
  else
    ix x1 8 <|
    if (g2.1 2 (x1.toNatClampNeg)) = (0 : Int32) then
      ix x1 8 <|
      ix x1 8 <|
      ix x1 8 <|
      bd2 (f5_lyingLeft (g2.1 87 (x1.toNatClampNeg)) (g2.1 84 (x1.toNatClampNeg)) ((g2.1 5 0) + x2) (g2.1 3 (x1.toNatClampNeg)) g2) fun r12 g11 =>
      some (r12, g11)
    else
    if (g2.1 2 (x1.toNatClampNeg)) = (3 : Int32) then
      some ((0 : Int32), g2)
    else
    ix x1 8 <|
    some ((g2.1 4 (x1.toNatClampNeg)), g2)
def f5_word (x1 : Int32) (x2 : Int32) (g : Sg) : Option (Int32 × Sg) :=
  bd2 (f4_hasPromise x1 g) fun r3 g2 =>
  if r3 = 0 then
    some ((-1 : Int32), g2)
  else
    if x2 < 0 then
      some ((-1 : Int32), g2)
    else
      if x2 < (4 : Int32) then
        bd2 (f5_leftIn x1 (0 : Int32) g2) fun r9 g8 =>
        if r9 ≤ x2 then
          some ((-9 : Int32), g8)
        else
          bd2 (f4_wordAt x1 x2 g8) fun r13 g12 =>
          some (r13, g12)
      else
        some ((-1 : Int32), g2)
def f5_isCell (x0 : Int32) (g : Sg) : Option (Int32 × Sg) :=
  if x0 < 0 then
    rz (0 : Int32) g
  else
    if (6 : Int32) ≤ x0 then
      rz (0 : Int32) g
    else
      rz (1 : Int32) g
def f5_isNow (x1 : Int32) (x2 : Int32) (g : Sg) : Option (Int32 × Sg) :=
  bd2 (f4_hasPromise x1 g) fun r3 g2 =>
  if r3 = 0 then
    rz (0 : Int32) g2
  else
    ix x1 8 <|
    if (g2.1 2 (x1.toNatClampNeg)) = x2 then
      rz (1 : Int32) g2
    else
      rz (0 : Int32) g2
def f5_liesIn (x1 : Int32) (x2 : Int32) (g : Sg) : Option (Int32 × Sg) :=
  bd2 (f5_isNow x1 (0 : Int32) g) fun r3 g2 =>
  if r3 = 0 then
    rz (0 : Int32) g2
  else
    ix x1 8 <|
    if (g2.1 83 (x1.toNatClampNeg)) = x2 then
      rz (1 : Int32) g2
    else
      rz (0 : Int32) g2
def f5_lyingIn_b25 (k4 : Int32 → Int32 → Int32 → Sg → Option (Int32 × Sg)) (x1 : Int32) (x2 : Int32) (x3 : Int32) (g : Sg) : Option (Int32 × Sg) :=
  nx (x3 + (1 : Int32)) fun v1 =>
  k4 x1 x2 v1 g
def f5_lyingIn_b4 : Nat → Int32 → Int32 → Int32 → Sg → Option (Int32 × Sg)
  | 0, _, _, _, _ => none
  | n + 1, x1, x2, x3, g =>
    if (8 : Int32) ≤ x3 then
      some (x2, g)
    else
      bd2 (f5_liesIn x3 x1 g) fun r5 g4 =>
      if r5 = 0 then
        f5_lyingIn_b25 (f5_lyingIn_b4 n) x1 x2 x3 g4
      else
        nx (x2 ||| ((1 : Int32) <<< (x3 &&& 31))) fun v7 =>
        f5_lyingIn_b25 (f5_lyingIn_b4 n) x1 v7 x3 g4
def f5_lyingIn (x1 : Int32) (g : Sg) : Option (Int32 × Sg) :=
  f5_lyingIn_b4 1000 x1 (0 : Int32) (0 : Int32) g
def f5_holds (x0 : Int32) (x1 : Int32) (g : Sg) : Option (Int32 × Sg) :=
  if x1 < 0 then
    rz (0 : Int32) g
  else
    if ((x0 >>> (x1 &&& 31)) &&& (1 : Int32)) = (1 : Int32) then
      rz (1 : Int32) g
    else
      rz (0 : Int32) g
def f5_beginWetThen_b34 (k2 : Int32 → Int32 → Sg → Option (Sg)) (x1 : Int32) (x2 : Int32) (y0 : Int32) (y1 : Int32) (g : Sg) : Option (Sg) :=
  ix y1 6 <|
  nx (pu g 131 (y1.toNatClampNeg) y0) fun g2 =>
  nx (x2 + (1 : Int32)) fun v3 =>
  k2 x1 v3 g2
def f5_beginWetThen_b2 : Nat → Int32 → Int32 → Sg → Option (Sg)
  | 0, _, _, _ => none
  | n + 1, x1, x2, g =>
    if (6 : Int32) ≤ x2 then
      some g
    else
      bd2 (f5_holds x1 x2 g) fun r7 g6 =>
      if r7 = 0 then
        ix x2 6 <|
        f5_beginWetThen_b34 (f5_beginWetThen_b2 n) x1 x2 (g6.1 1 (x2.toNatClampNeg)) x2 g6
      else
        f5_beginWetThen_b34 (f5_beginWetThen_b2 n) x1 x2 (0 : Int32) x2 g6
def f5_beginWetThen (x1 : Int32) (g : Sg) : Option (Sg) :=
  f5_beginWetThen_b2 1000 x1 (0 : Int32) g
def f5_wetAround_b10 (a : Nat) : Nat → Int32 → Int32 → Int32 → Sg → Option (Int32 × Sg)
  | 0, _, _, _, _ => none
  | n + 1, x1, x2, x3, g =>
    if (x1 + (1 : Int32)) < x3 then
      some (x2, g)
    else
      if (6 : Int32) ≤ x3 then
        some (x2, g)
      else
        ix x3 6 <|
        nx (x2 + (g.1 a (x3.toNatClampNeg))) fun v4 =>
        nx (x3 + (1 : Int32)) fun v5 =>
        f5_wetAround_b10 a n x1 v4 v5 g
def f5_wetAround (a : Nat) (x1 : Int32) (g : Sg) : Option (Int32 × Sg) :=
  nx (if (0 : Int32) < (x1 - (1 : Int32)) then (x1 - (1 : Int32)) else (0 : Int32)) fun v6 =>
  f5_wetAround_b10 a 1000 x1 (0 : Int32) v6 g
def f5_letYearPass_b84 (a : Nat) (k66 : Int32 → Int32 → Sg → Option (Int32 × Sg)) (x2 : Int32) (x3 : Int32) (g : Sg) : Option (Int32 × Sg) :=
  nx (x3 + (1 : Int32)) fun v1 =>
  k66 x2 v1 g
def f5_letYearPass_b66 (a : Nat) : Nat → Int32 → Int32 → Sg → Option (Int32 × Sg)
  | 0, _, _, _ => none
  | n + 1, x2, x3, g =>
    if (6 : Int32) ≤ x3 then
      some (x2, g)
    else
      bd2 (f5_holds x2 x3 g) fun r5 g4 =>
      if r5 = 0 then
        f5_letYearPass_b84 a (f5_letYearPass_b66 a n) x2 x3 g4
      else
        ix x3 6 <|
        nx (pu g4 a (x3.toNatClampNeg) (0 : Int32)) fun g8 =>
        f5_letYearPass_b84 a (f5_letYearPass_b66 a n) x2 x3 g8
def f5_letYearPass_b58 (a : Nat) (k31 : Int32 → Int32 → Sg → Option (Int32 × Sg)) (x2 : Int32) (x3 : Int32) (g : Sg) : Option (Int32 × Sg) :=
  nx (x3 + (1 : Int32)) fun v9 =>
  k31 x2 v9 g
def f5_letYearPass_b31 (a : Nat) : Nat → Int32 → Int32 → Sg → Option (Int32 × Sg)
  | 0, _, _, _ => none
  | n + 1, x2, x3, g =>
    if (6 : Int32) ≤ x3 then
      f5_letYearPass_b66 a 1000 x2 (0 : Int32) g
    else
      bd2 (f5_wetAround a x3 g) fun r13 g12 =>
      if r13 < (g12.1 90 3) then
        f5_letYearPass_b58 a (f5_letYearPass_b31 a n) x2 x3 g12
      else
        nx (x2 ||| ((1 : Int32) <<< (x3 &&& 31))) fun v15 =>
        f5_letYearPass_b58 a (f5_letYearPass_b31 a n) v15 x3 g12
def f5_letYearPass_b2 (a : Nat) : Nat → Int32 → Sg → Option (Int32 × Sg)
  | 0, _, _ => none
  | n + 1, x2, g =>
    if (6 : Int32) ≤ x2 then
      f5_letYearPass_b31 a 1000 (0 : Int32) (0 : Int32) g
    else
      ix x2 6 <|
      ix x2 6 <|
      nx (pu g a (x2.toNatClampNeg) (if ((g.1 a (x2.toNatClampNeg)) + (1 : Int32)) < (9 : Int32) then ((g.1 a (x2.toNatClampNeg)) + (1 : Int32)) else (9 : Int32))) fun g19 =>
      nx (x2 + (1 : Int32)) fun v20 =>
      f5_letYearPass_b2 a n v20 g19
def f5_letYearPass (a : Nat) (g : Sg) : Option (Int32 × Sg) :=
  f5_letYearPass_b2 a 1000 (0 : Int32) g
def f5_firstSlide_b7 : Nat → Int32 → Int32 → Sg → Option (Int32 × Sg)
  | 0, _, _, _ => none
  | n + 1, x1, x2, g =>
    if (50 : Int32) < x2 then
      some ((-9 : Int32), g)
    else
      bd2 (f5_letYearPass 131 g) fun r4 g3 =>
      bd2 (f5_holds r4 x1 g3) fun r7 g6 =>
      if r7 = 0 then
        nx (x2 + (1 : Int32)) fun v9 =>
        f5_firstSlide_b7 n x1 v9 g6
      else
        some (x2, g6)
def f5_firstSlide (x1 : Int32) (g : Sg) : Option (Int32 × Sg) :=
  bd (f5_beginWetThen (0 : Int32) g) fun g11 =>
  f5_firstSlide_b7 1000 x1 (1 : Int32) g11
def f5_cell (x1 : Int32) (x2 : Int32) (g : Sg) : Option (Int32 × Sg) :=
  bd2 (f5_isCell x1 g) fun r3 g2 =>
  if r3 = 0 then
    some ((-1 : Int32), g2)
  else
    if x2 = (0 : Int32) then
      ix x1 6 <|
      some ((g2.1 0 (x1.toNatClampNeg)), g2)
    else
    if x2 = (1 : Int32) then
      ix x1 6 <|
      some ((g2.1 1 (x1.toNatClampNeg)), g2)
    else
    if x2 = (2 : Int32) then
      bd2 (f5_lyingIn x1 g2) fun r12 g11 =>
      some (r12, g11)
    else
    if x2 = (3 : Int32) then
      bd2 (f5_firstSlide x1 g2) fun r16 g15 =>
      some (r16, g15)
    else
    some ((-1 : Int32), g2)
def f5_thoseThatAre_b25 (k4 : Int32 → Int32 → Int32 → Sg → Option (Int32 × Sg)) (x1 : Int32) (x2 : Int32) (x3 : Int32) (g : Sg) : Option (Int32 × Sg) :=
  nx (x3 + (1 : Int32)) fun v1 =>
  k4 x1 x2 v1 g
def f5_thoseThatAre_b4 : Nat → Int32 → Int32 → Int32 → Sg → Option (Int32 × Sg)
  | 0, _, _, _, _ => none
  | n + 1, x1, x2, x3, g =>
    if (8 : Int32) ≤ x3 then
      some (x2, g)
    else
      bd2 (f5_isNow x3 x1 g) fun r5 g4 =>
      if r5 = 0 then
        f5_thoseThatAre_b25 (f5_thoseThatAre_b4 n) x1 x2 x3 g4
      else
        nx (x2 ||| ((1 : Int32) <<< (x3 &&& 31))) fun v7 =>
        f5_thoseThatAre_b25 (f5_thoseThatAre_b4 n) x1 v7 x3 g4
def f5_thoseThatAre (x1 : Int32) (g : Sg) : Option (Int32 × Sg) :=
  f5_thoseThatAre_b4 1000 x1 (0 : Int32) (0 : Int32) g
def f5_now (x1 : Int32) (g : Sg) : Option (Int32 × Sg) :=
  if x1 = (0 : Int32) then
    some ((g.1 5 0), g)
  else
  if x1 = (1 : Int32) then
    bd2 (f5_thoseThatAre (0 : Int32) g) fun r5 g4 =>
    some (r5, g4)
  else
  if x1 = (2 : Int32) then
    bd2 (f5_thoseThatAre (1 : Int32) g) fun r9 g8 =>
    some (r9, g8)
  else
  if x1 = (3 : Int32) then
    bd2 (f5_thoseThatAre (2 : Int32) g) fun r13 g12 =>
    some (r13, g12)
  else
  if x1 = (4 : Int32) then
    bd2 (f5_thoseThatAre (3 : Int32) g) fun r17 g16 =>
    some (r17, g16)
  else
  if x1 = (5 : Int32) then
    some ((g.1 123 1), g)
  else
  some ((-1 : Int32), g)
def f5_cuts_b105 (k41 : Int32 → Int32 → Int32 → Sg → Option (Int32 × Sg)) (x1 : Int32) (x2 : Int32) (x3 : Int32) (g : Sg) : Option (Int32 × Sg) :=
  nx (x3 + (1 : Int32)) fun v1 =>
  k41 x1 x2 v1 g
def f5_cuts_b41 : Nat → Int32 → Int32 → Int32 → Sg → Option (Int32 × Sg)
  | 0, _, _, _, _ => none
  | n + 1, x1, x2, x3, g =>
    if (8 : Int32) ≤ x3 then
      ix x1 6 <|
      ix x1 6 <|
      nx (pu g 0 (x1.toNatClampNeg) ((g.1 0 (x1.toNatClampNeg)) + (1 : Int32))) fun g5 =>
      some (x2, g5)
    else
      bd2 (f5_liesIn x3 x1 g) fun r8 g7 =>
      if r8 = 0 then
        f5_cuts_b105 (f5_cuts_b41 n) x1 x2 x3 g7
      else
        ix x3 8 <|
        ix x1 6 <|
        if (g7.1 84 (x3.toNatClampNeg)) = (g7.1 0 (x1.toNatClampNeg)) then
          bd2 (f5_leftIn x3 (0 : Int32) g7) fun r15 g14 =>
          ix x3 8 <|
          nx (pu g14 4 (x3.toNatClampNeg) r15) fun g17 =>
          ix x3 8 <|
          nx (pu g17 2 (x3.toNatClampNeg) (1 : Int32)) fun g19 =>
          nx (x2 + (1 : Int32)) fun v20 =>
          f5_cuts_b105 (f5_cuts_b41 n) x1 v20 x3 g19
        else
          f5_cuts_b105 (f5_cuts_b41 n) x1 x2 x3 g7
def f5_cuts (x1 : Int32) (g : Sg) : Option (Int32 × Sg) :=
  bd2 (f5_isCell x1 g) fun r23 g22 =>
  if r23 = 0 then
    some ((-1 : Int32), g22)
  else
    ix x1 6 <|
    if (g22.1 0 (x1.toNatClampNeg)) < (6 : Int32) then
      bd (f1_remember g22) fun g28 =>
      f5_cuts_b41 1000 x1 (0 : Int32) (0 : Int32) g28
    else
      some ((-2 : Int32), g22)
def f5_drains_b89 (k49 : Int32 → Int32 → Int32 → Sg → Option (Int32 × Sg)) (x1 : Int32) (x2 : Int32) (x3 : Int32) (g : Sg) : Option (Int32 × Sg) :=
  nx (x3 + (1 : Int32)) fun v1 =>
  k49 x1 x2 v1 g
def f5_drains_b49 : Nat → Int32 → Int32 → Int32 → Sg → Option (Int32 × Sg)
  | 0, _, _, _, _ => none
  | n + 1, x1, x2, x3, g =>
    if (8 : Int32) ≤ x3 then
      some (x2, g)
    else
      bd2 (f5_liesIn x3 x1 g) fun r5 g4 =>
      if r5 = 0 then
        f5_drains_b89 (f5_drains_b49 n) x1 x2 x3 g4
      else
        ix x3 8 <|
        ix x3 8 <|
        nx (pu g4 3 (x3.toNatClampNeg) (if ((g4.1 3 (x3.toNatClampNeg)) + (1 : Int32)) < (9 : Int32) then ((g4.1 3 (x3.toNatClampNeg)) + (1 : Int32)) else (9 : Int32))) fun g9 =>
        f5_drains_b89 (f5_drains_b49 n) x1 x2 x3 g9
def f5_drains (x1 : Int32) (g : Sg) : Option (Int32 × Sg) :=
  bd2 (f5_isCell x1 g) fun r12 g11 =>
  if r12 = 0 then
    some ((-1 : Int32), g11)
  else
    ix x1 6 <|
    nx (g11.1 1 (x1.toNatClampNeg)) fun v15 =>
    if v15 = 0 then
      some ((-2 : Int32), g11)
    else
      bd (f1_remember g11) fun g18 =>
      ix x1 6 <|
      nx (pu g18 1 (x1.toNatClampNeg) (0 : Int32)) fun g20 =>
      f5_drains_b49 1000 x1 v15 (0 : Int32) g20
def f5_mayBeDone (x1 : Int32) (x2 : Int32) (g : Sg) : Option (Int32 × Sg) :=
  bd2 (f5_isNow x1 (1 : Int32) g) fun r3 g2 =>
  if r3 = 0 then
    rz (0 : Int32) g2
  else
    ix x1 8 <|
    if ((g2.1 89 (x1.toNatClampNeg)) &&& x2) = 0 then
      rz (1 : Int32) g2
    else
      rz (0 : Int32) g2
def f9_bitCount (x0 : Int32) (g : Sg) : Option (Int32 × Sg) :=
  nx (x0 - (((x0).toUInt32 >>> (((1 : Int32)).toUInt32 &&& Int32.toUInt32 31)).toInt32 &&& (1431655765 : Int32))) fun v1 =>
  nx ((v1 &&& (858993459 : Int32)) + (((v1).toUInt32 >>> (((2 : Int32)).toUInt32 &&& Int32.toUInt32 31)).toInt32 &&& (858993459 : Int32))) fun v2 =>
  nx ((v2 + ((v2).toUInt32 >>> (((4 : Int32)).toUInt32 &&& Int32.toUInt32 31)).toInt32) &&& (252645135 : Int32)) fun v3 =>
  nx (v3 + ((v3).toUInt32 >>> (((8 : Int32)).toUInt32 &&& Int32.toUInt32 31)).toInt32) fun v4 =>
  nx (v4 + ((v4).toUInt32 >>> (((16 : Int32)).toUInt32 &&& Int32.toUInt32 31)).toInt32) fun v5 =>
  some ((v5 &&& (63 : Int32)), g)
def f5_does (x1 : Int32) (g : Sg) : Option (Int32 × Sg) :=
  bd2 (f4_hasPromise x1 g) fun r3 g2 =>
  if r3 = 0 then
    some ((-1 : Int32), g2)
  else
    bd2 (f5_thoseThatAre (2 : Int32) g2) fun r7 g6 =>
    bd2 (f5_mayBeDone x1 r7 g6) fun r10 g9 =>
    if r10 = 0 then
      some ((-2 : Int32), g9)
    else
      bd (f1_remember g9) fun g13 =>
      ix x1 8 <|
      nx (pu g13 2 (x1.toNatClampNeg) (2 : Int32)) fun g15 =>
      bd2 (f5_thoseThatAre (2 : Int32) g15) fun r18 g17 =>
      bd2 (f9_bitCount r18 g17) fun r21 g20 =>
      some (r21, g20)
def f5_year_b100 (k56 : Int32 → Int32 → Int32 → Sg → Option (Int32 × Sg)) (x1 : Int32) (x2 : Int32) (x3 : Int32) (g : Sg) : Option (Int32 × Sg) :=
  nx (x3 + (1 : Int32)) fun v1 =>
  k56 x1 x2 v1 g
def f5_year_b56 : Nat → Int32 → Int32 → Int32 → Sg → Option (Int32 × Sg)
  | 0, _, _, _, _ => none
  | n + 1, x1, x2, x3, g =>
    if (8 : Int32) ≤ x3 then
      some (x2, g)
    else
      bd2 (f5_isNow x3 (0 : Int32) g) fun r5 g4 =>
      if r5 = 0 then
        f5_year_b100 (f5_year_b56 n) x1 x2 x3 g4
      else
        ix x3 8 <|
        bd2 (f5_holds x1 (g4.1 83 (x3.toNatClampNeg)) g4) fun r10 g9 =>
        if r10 = 0 then
          f5_year_b100 (f5_year_b56 n) x1 x2 x3 g9
        else
          ix x3 8 <|
          nx (pu g9 2 (x3.toNatClampNeg) (3 : Int32)) fun g13 =>
          nx (x2 + (1 : Int32)) fun v14 =>
          f5_year_b100 (f5_year_b56 n) x1 v14 x3 g13
def f5_year (g : Sg) : Option (Int32 × Sg) :=
  if (g.1 5 0) < (999 : Int32) then
    bd (f1_remember g) fun g17 =>
    nx (pu g17 5 0 ((g17.1 5 0) + (1 : Int32))) fun g18 =>
    bd2 (f5_letYearPass 1 g18) fun r21 g20 =>
    f5_year_b56 1000 r21 (0 : Int32) (0 : Int32) g20
  else
    some ((-2 : Int32), g)
def f5_undo (g : Sg) : Option (Int32 × Sg) :=
  if (g.1 123 1) = 0 then
    some ((-2 : Int32), g)
  else
    bd (f1_giveBack g) fun g3 =>
    some ((g3.1 123 1), g3)
def f5_isToldYear (x0 : Int32) (g : Sg) : Option (Int32 × Sg) :=
  if x0 < 0 then
    rz (0 : Int32) g
  else
    if (99 : Int32) < x0 then
      rz (0 : Int32) g
    else
      rz (1 : Int32) g
def f5_left (x1 : Int32) (x2 : Int32) (g : Sg) : Option (Int32 × Sg) :=
  bd2 (f4_hasPromise x1 g) fun r3 g2 =>
  if r3 = 0 then
    some ((-1 : Int32), g2)
  else
    bd2 (f5_isToldYear x2 g2) fun r7 g6 =>
    if r7 = 0 then
      some ((-1 : Int32), g6)
    else
      bd2 (f5_leftIn x1 x2 g6) fun r11 g10 =>
      some (r11, g10)
def f5_lasts_b32 : Nat → Int32 → Int32 → Int32 → Int32 → Sg → Option (Int32 × Sg)
  | 0, _, _, _, _, _ => none
  | n + 1, x1, x2, x3, x4, g =>
    if x4 < 0 then
      some ((-9 : Int32), g)
    else
      bd2 (f5_lyingLeft x1 x4 x3 (0 : Int32) g) fun r4 g3 =>
      if r4 < x2 then
        nx (x4 + (-1 : Int32)) fun v6 =>
        f5_lasts_b32 n x1 x2 x3 v6 g3
      else
        some (x4, g3)
def f5_lasts (x1 : Int32) (x2 : Int32) (x3 : Int32) (g : Sg) : Option (Int32 × Sg) :=
  if x1 < (1 : Int32) then
    some ((-1 : Int32), g)
  else
    if (4 : Int32) < x1 then
      some ((-1 : Int32), g)
    else
      if x2 < (1 : Int32) then
        some ((-1 : Int32), g)
      else
        if (4 : Int32) < x2 then
          some ((-1 : Int32), g)
        else
          bd2 (f5_isToldYear x3 g) fun r13 g12 =>
          if r13 = 0 then
            some ((-1 : Int32), g12)
          else
            f5_lasts_b32 1000 x1 x2 x3 (5 : Int32) g12
def f5_duty_b33 : Nat → Int32 → Int32 → Int32 → Sg → Option (Int32 × Sg)
  | 0, _, _, _, _ => none
  | n + 1, x2, x3, x4, g =>
    if (6 : Int32) ≤ x4 then
      some ((-9 : Int32), g)
    else
      bd2 (f4_hasPerson x3 g) fun r4 g3 =>
      if r4 = 0 then
        some ((-9 : Int32), g3)
      else
        ix x3 6 <|
        if (g3.1 80 (x3.toNatClampNeg)) ≤ ((g3.1 5 0) + x2) then
          ix x3 6 <|
          nx (g3.1 81 (x3.toNatClampNeg)) fun v9 =>
          nx (x4 + (1 : Int32)) fun v10 =>
          f5_duty_b33 n x2 v9 v10 g3
        else
          some (x3, g3)
def f5_duty (x1 : Int32) (x2 : Int32) (g : Sg) : Option (Int32 × Sg) :=
  bd2 (f4_hasPromise x1 g) fun r13 g12 =>
  if r13 = 0 then
    some ((-1 : Int32), g12)
  else
    bd2 (f5_isToldYear x2 g12) fun r17 g16 =>
    if r17 = 0 then
      some ((-1 : Int32), g16)
    else
      ix x1 8 <|
      nx (g16.1 82 (x1.toNatClampNeg)) fun v20 =>
      f5_duty_b33 1000 x2 v20 (0 : Int32) g16
def f5_sees (x1 : Int32) (g : Sg) : Option (Int32 × Sg) :=
  if x1 < 0 then
    some ((-1 : Int32), g)
  else
    if x1 ≤ (9 : Int32) then
      if (g.1 134 0) < (4 : Int32) then
        ix (g.1 134 0) 4 <|
        nx (pu g 130 (((g.1 134 0)).toNatClampNeg) x1) fun g5 =>
        nx (pu g5 134 0 ((g5.1 134 0) + (1 : Int32))) fun g6 =>
        some ((g6.1 134 0), g6)
      else
        some ((-3 : Int32), g)
    else
      some ((-1 : Int32), g)
def f5_forget (g : Sg) : Option (Int32 × Sg) :=
  nx (g.1 134 0) fun v1 =>
  nx (pu g 134 0 (0 : Int32)) fun g2 =>
  some (v1, g2)
def f5_beginsAsSeen_b26 : Nat → Int32 → Int32 → Sg → Option (Int32 × Sg)
  | 0, _, _, _ => none
  | n + 1, x1, x2, g =>
    if (g.1 134 0) ≤ x2 then
      rz (1 : Int32) g
    else
      if (4 : Int32) ≤ x2 then
        rz (1 : Int32) g
      else
        bd2 (f4_wordAt x1 x2 g) fun r5 g4 =>
        ix x2 4 <|
        if r5 = (g4.1 130 (x2.toNatClampNeg)) then
          nx (x2 + (1 : Int32)) fun v8 =>
          f5_beginsAsSeen_b26 n x1 v8 g4
        else
          rz (0 : Int32) g4
def f5_beginsAsSeen (x1 : Int32) (g : Sg) : Option (Int32 × Sg) :=
  bd2 (f5_isNow x1 (0 : Int32) g) fun r11 g10 =>
  if r11 = 0 then
    rz (0 : Int32) g10
  else
    bd2 (f5_leftIn x1 (0 : Int32) g10) fun r15 g14 =>
    if (g14.1 134 0) ≤ r15 then
      f5_beginsAsSeen_b26 1000 x1 (0 : Int32) g14
    else
      rz (0 : Int32) g14
def f5_fits_b24 (k4 : Int32 → Int32 → Sg → Option (Int32 × Sg)) (x1 : Int32) (x2 : Int32) (g : Sg) : Option (Int32 × Sg) :=
  nx (x2 + (1 : Int32)) fun v1 =>
  k4 x1 v1 g
def f5_fits_b4 : Nat → Int32 → Int32 → Sg → Option (Int32 × Sg)
  | 0, _, _, _ => none
  | n + 1, x1, x2, g =>
    if (8 : Int32) ≤ x2 then
      some (x1, g)
    else
      bd2 (f5_beginsAsSeen x2 g) fun r5 g4 =>
      if r5 = 0 then
        f5_fits_b24 (f5_fits_b4 n) x1 x2 g4
      else
        nx (x1 ||| ((1 : Int32) <<< (x2 &&& 31))) fun v7 =>
        f5_fits_b24 (f5_fits_b4 n) v7 x2 g4
def f5_fits (g : Sg) : Option (Int32 × Sg) :=
  f5_fits_b4 1000 (0 : Int32) (0 : Int32) g
def f5_likely_b121 (k96 : Int32 → Int32 → Int32 → Sg → Option (Int32 × Sg)) (x1 : Int32) (x2 : Int32) (x3 : Int32) (g : Sg) : Option (Int32 × Sg) :=
  nx (x3 + (1 : Int32)) fun v1 =>
  k96 x1 x2 v1 g
def f5_likely_b96 : Nat → Int32 → Int32 → Int32 → Sg → Option (Int32 × Sg)
  | 0, _, _, _, _ => none
  | n + 1, x1, x2, x3, g =>
    if (9 : Int32) < x3 then
      some (x1, g)
    else
      ix x3 10 <|
      if (g.1 132 (x3.toNatClampNeg)) ≤ x2 then
        f5_likely_b121 (f5_likely_b96 n) x1 x2 x3 g
      else
        ix x3 10 <|
        nx (g.1 132 (x3.toNatClampNeg)) fun v6 =>
        f5_likely_b121 (f5_likely_b96 n) x3 v6 x3 g
def f5_likely_b83 (k23 : Int32 → Sg → Option (Int32 × Sg)) (x1 : Int32) (g : Sg) : Option (Int32 × Sg) :=
  nx (x1 + (1 : Int32)) fun v7 =>
  k23 v7 g
def f5_likely_b23 : Nat → Int32 → Sg → Option (Int32 × Sg)
  | 0, _, _ => none
  | n + 1, x1, g =>
    if (8 : Int32) ≤ x1 then
      f5_likely_b96 1000 (-9 : Int32) (0 : Int32) (0 : Int32) g
    else
      bd2 (f5_beginsAsSeen x1 g) fun r11 g10 =>
      if r11 = 0 then
        f5_likely_b83 (f5_likely_b23 n) x1 g10
      else
        bd2 (f5_leftIn x1 (0 : Int32) g10) fun r15 g14 =>
        if r15 ≤ (g14.1 134 0) then
          f5_likely_b83 (f5_likely_b23 n) x1 g14
        else
          bd2 (f4_wordAt x1 (g14.1 134 0) g14) fun r19 g18 =>
          if r19 < 0 then
            f5_likely_b83 (f5_likely_b23 n) x1 g18
          else
            if (9 : Int32) < r19 then
              f5_likely_b83 (f5_likely_b23 n) x1 g18
            else
              ix r19 10 <|
              ix r19 10 <|
              nx (pu g18 132 (r19.toNatClampNeg) ((g18.1 132 (r19.toNatClampNeg)) + (1 : Int32))) fun g24 =>
              f5_likely_b83 (f5_likely_b23 n) x1 g24
def f5_likely_b2 : Nat → Int32 → Sg → Option (Int32 × Sg)
  | 0, _, _ => none
  | n + 1, x1, g =>
    if (9 : Int32) < x1 then
      f5_likely_b23 1000 (0 : Int32) g
    else
      ix x1 10 <|
      nx (pu g 132 (x1.toNatClampNeg) (0 : Int32)) fun g27 =>
      nx (x1 + (1 : Int32)) fun v28 =>
      f5_likely_b2 n v28 g27
def f5_likely (g : Sg) : Option (Int32 × Sg) :=
  f5_likely_b2 1000 (0 : Int32) g
def f5_clashesWithin_b32 (k2 : Int32 → Int32 → Sg → Option (Int32 × Sg)) (x1 : Int32) (x2 : Int32) (g : Sg) : Option (Int32 × Sg) :=
  nx (x2 + (1 : Int32)) fun v1 =>
  k2 x1 v1 g
def f5_clashesWithin_b2 : Nat → Int32 → Int32 → Sg → Option (Int32 × Sg)
  | 0, _, _, _ => none
  | n + 1, x1, x2, g =>
    if (8 : Int32) ≤ x2 then
      rz (0 : Int32) g
    else
      bd2 (f5_holds x1 x2 g) fun r5 g4 =>
      if r5 = 0 then
        f5_clashesWithin_b32 (f5_clashesWithin_b2 n) x1 x2 g4
      else
        ix x2 8 <|
        if ((g4.1 89 (x2.toNatClampNeg)) &&& x1) = 0 then
          f5_clashesWithin_b32 (f5_clashesWithin_b2 n) x1 x2 g4
        else
          rz (1 : Int32) g4
def f5_clashesWithin (x1 : Int32) (g : Sg) : Option (Int32 × Sg) :=
  f5_clashesWithin_b2 1000 x1 (0 : Int32) g
def f5_wordsLeftOf_b27 (k4 : Int32 → Int32 → Int32 → Sg → Option (Int32 × Sg)) (x1 : Int32) (x2 : Int32) (x3 : Int32) (g : Sg) : Option (Int32 × Sg) :=
  nx (x3 + (1 : Int32)) fun v1 =>
  k4 x1 x2 v1 g
def f5_wordsLeftOf_b4 : Nat → Int32 → Int32 → Int32 → Sg → Option (Int32 × Sg)
  | 0, _, _, _, _ => none
  | n + 1, x1, x2, x3, g =>
    if (8 : Int32) ≤ x3 then
      some (x2, g)
    else
      bd2 (f5_holds x1 x3 g) fun r5 g4 =>
      if r5 = 0 then
        f5_wordsLeftOf_b27 (f5_wordsLeftOf_b4 n) x1 x2 x3 g4
      else
        bd2 (f5_leftIn x3 (0 : Int32) g4) fun r9 g8 =>
        nx (x2 + r9) fun v10 =>
        f5_wordsLeftOf_b27 (f5_wordsLeftOf_b4 n) x1 v10 x3 g8
def f5_wordsLeftOf (x1 : Int32) (g : Sg) : Option (Int32 × Sg) :=
  f5_wordsLeftOf_b4 1000 x1 (0 : Int32) (0 : Int32) g
def f5_bestKept_b93 (k45 : Int32 → Int32 → Int32 → Int32 → Sg → Option (Int32 × Sg)) (x2 : Int32) (x3 : Int32) (x4 : Int32) (x5 : Int32) (g : Sg) : Option (Int32 × Sg) :=
  nx (x5 + (1 : Int32)) fun v1 =>
  k45 x2 x3 x4 v1 g
def f5_bestKept_b45 : Nat → Int32 → Int32 → Int32 → Int32 → Sg → Option (Int32 × Sg)
  | 0, _, _, _, _, _ => none
  | n + 1, x2, x3, x4, x5, g =>
    if (256 : Int32) ≤ x5 then
      some (x3, g)
    else
      if (x5 &&& (x2 ^^^ (-1 : Int32))) = 0 then
        bd2 (f5_clashesWithin x5 g) fun r6 g5 =>
        if r6 = 0 then
          bd2 (f5_wordsLeftOf x5 g5) fun r10 g9 =>
          if r10 ≤ x4 then
            f5_bestKept_b93 (f5_bestKept_b45 n) x2 x3 x4 x5 g9
          else
            bd2 (f5_wordsLeftOf x5 g9) fun r14 g13 =>
            f5_bestKept_b93 (f5_bestKept_b45 n) x2 x5 r14 x5 g13
        else
          f5_bestKept_b93 (f5_bestKept_b45 n) x2 x3 x4 x5 g5
      else
        f5_bestKept_b93 (f5_bestKept_b45 n) x2 x3 x4 x5 g
def f5_bestKept_b31 (k10 : Int32 → Int32 → Int32 → Sg → Option (Int32 × Sg)) (x1 : Int32) (x2 : Int32) (x3 : Int32) (g : Sg) : Option (Int32 × Sg) :=
  nx (x3 + (1 : Int32)) fun v15 =>
  k10 x1 x2 v15 g
def f5_bestKept_b10 : Nat → Int32 → Int32 → Int32 → Sg → Option (Int32 × Sg)
  | 0, _, _, _, _ => none
  | n + 1, x1, x2, x3, g =>
    if (8 : Int32) ≤ x3 then
      f5_bestKept_b45 1000 x2 (0 : Int32) (0 : Int32) (0 : Int32) g
    else
      bd2 (f5_mayBeDone x3 x1 g) fun r19 g18 =>
      if r19 = 0 then
        f5_bestKept_b31 (f5_bestKept_b10 n) x1 x2 x3 g18
      else
        nx (x2 ||| ((1 : Int32) <<< (x3 &&& 31))) fun v21 =>
        f5_bestKept_b31 (f5_bestKept_b10 n) x1 v21 x3 g18
def f5_bestKept (g : Sg) : Option (Int32 × Sg) :=
  bd2 (f5_thoseThatAre (2 : Int32) g) fun r24 g23 =>
  f5_bestKept_b10 1000 r24 (0 : Int32) (0 : Int32) g23
def f5_kept (x1 : Int32) (g : Sg) : Option (Int32 × Sg) :=
  if x1 = (0 : Int32) then
    bd2 (f5_bestKept g) fun r4 g3 =>
    some (r4, g3)
  else
  if x1 = (1 : Int32) then
    bd2 (f5_bestKept g) fun r8 g7 =>
    bd2 (f5_wordsLeftOf r8 g7) fun r11 g10 =>
    some (r11, g10)
  else
  some ((-1 : Int32), g)
def f5_earliestDue_b53 (k9 : Int32 → Int32 → Int32 → Int32 → Sg → Option (Int32 × Sg)) (x1 : Int32) (x2 : Int32) (x3 : Int32) (x4 : Int32) (g : Sg) : Option (Int32 × Sg) :=
  nx (x4 + (1 : Int32)) fun v1 =>
  k9 x1 x2 x3 v1 g
def f5_earliestDue_b9 : Nat → Int32 → Int32 → Int32 → Int32 → Sg → Option (Int32 × Sg)
  | 0, _, _, _, _, _ => none
  | n + 1, x1, x2, x3, x4, g =>
    if (8 : Int32) ≤ x4 then
      some (x2, g)
    else
      bd2 (f5_holds x1 x4 g) fun r5 g4 =>
      if r5 = 0 then
        f5_earliestDue_b53 (f5_earliestDue_b9 n) x1 x2 x3 x4 g4
      else
        ix x4 8 <|
        if x3 ≤ (g4.1 86 (x4.toNatClampNeg)) then
          f5_earliestDue_b53 (f5_earliestDue_b9 n) x1 x2 x3 x4 g4
        else
          ix x4 8 <|
          nx (g4.1 86 (x4.toNatClampNeg)) fun v10 =>
          f5_earliestDue_b53 (f5_earliestDue_b9 n) x1 x4 v10 x4 g4
def f5_earliestDue (x1 : Int32) (g : Sg) : Option (Int32 × Sg) :=
  f5_earliestDue_b9 1000 x1 (-9 : Int32) (100 : Int32) (0 : Int32) g
def f5_without (x0 : Int32) (x1 : Int32) (g : Sg) : Option (Int32 × Sg) :=
  if 0 ≤ x1 then
    some ((x0 &&& (((1 : Int32) <<< (x1 &&& 31)) ^^^ (-1 : Int32))), g)
  else
    some (x0, g)
def f5_endsByDue_b13 : Nat → Int32 → Int32 → Int32 → Sg → Option (Int32 × Sg)
  | 0, _, _, _, _ => none
  | n + 1, x2, x3, x4, g =>
    if (8 : Int32) ≤ x4 then
      rz (1 : Int32) g
    else
      bd2 (f5_earliestDue x3 g) fun r4 g3 =>
      bd2 (f4_hasPromise r4 g3) fun r7 g6 =>
      if r7 = 0 then
        rz (1 : Int32) g6
      else
        ix r4 8 <|
        nx (x2 + (g6.1 85 (r4.toNatClampNeg))) fun v10 =>
        ix r4 8 <|
        if v10 ≤ (g6.1 86 (r4.toNatClampNeg)) then
          bd2 (f5_without x3 r4 g6) fun r15 g14 =>
          nx (x4 + (1 : Int32)) fun v16 =>
          f5_endsByDue_b13 n v10 r15 v16 g14
        else
          rz (0 : Int32) g6
def f5_endsByDue (x1 : Int32) (g : Sg) : Option (Int32 × Sg) :=
  nx (g.1 5 0) fun v17 =>
  f5_endsByDue_b13 1000 v17 x1 (0 : Int32) g
def f5_bestOrdered_b46 (k10 : Int32 → Int32 → Int32 → Sg → Option (Int32 × Sg)) (x1 : Int32) (x2 : Int32) (x3 : Int32) (g : Sg) : Option (Int32 × Sg) :=
  nx (x3 + (1 : Int32)) fun v1 =>
  k10 x1 x2 v1 g
def f5_bestOrdered_b10 : Nat → Int32 → Int32 → Int32 → Sg → Option (Int32 × Sg)
  | 0, _, _, _, _ => none
  | n + 1, x1, x2, x3, g =>
    if (256 : Int32) ≤ x3 then
      some (x2, g)
    else
      if (x3 &&& (x1 ^^^ (-1 : Int32))) = 0 then
        bd2 (f9_bitCount x3 g) fun r6 g5 =>
        bd2 (f9_bitCount x2 g5) fun r9 g8 =>
        if r6 ≤ r9 then
          f5_bestOrdered_b46 (f5_bestOrdered_b10 n) x1 x2 x3 g8
        else
          bd2 (f5_endsByDue x3 g8) fun r13 g12 =>
          if r13 = 0 then
            f5_bestOrdered_b46 (f5_bestOrdered_b10 n) x1 x2 x3 g12
          else
            f5_bestOrdered_b46 (f5_bestOrdered_b10 n) x1 x3 x3 g12
      else
        f5_bestOrdered_b46 (f5_bestOrdered_b10 n) x1 x2 x3 g
def f5_bestOrdered (g : Sg) : Option (Int32 × Sg) :=
  bd2 (f5_thoseThatAre (1 : Int32) g) fun r17 g16 =>
  f5_bestOrdered_b10 1000 r17 (0 : Int32) (0 : Int32) g16
def f5_order_b30 : Nat → Int32 → Int32 → Int32 → Sg → Option (Int32 × Sg)
  | 0, _, _, _, _ => none
  | n + 1, x1, x2, x3, g =>
    if x1 ≤ x3 then
      bd2 (f5_earliestDue x2 g) fun r4 g3 =>
      some (r4, g3)
    else
      bd2 (f5_earliestDue x2 g) fun r7 g6 =>
      bd2 (f5_without x2 r7 g6) fun r10 g9 =>
      nx (x3 + (1 : Int32)) fun v11 =>
      f5_order_b30 n x1 r10 v11 g9
def f5_order (x1 : Int32) (g : Sg) : Option (Int32 × Sg) :=
  if x1 < (-1 : Int32) then
    some ((-1 : Int32), g)
  else
    if x1 < (8 : Int32) then
      bd2 (f5_bestOrdered g) fun r16 g15 =>
      if x1 = (-1 : Int32) then
        bd2 (f9_bitCount r16 g15) fun r20 g19 =>
        some (r20, g19)
      else
        f5_order_b30 1000 x1 r16 (0 : Int32) g15
    else
      some ((-1 : Int32), g)
def f5_staysIfDry_b7 : Nat → Int32 → Int32 → Sg → Option (Int32 × Sg)
  | 0, _, _, _ => none
  | n + 1, x2, x3, g =>
    if x2 ≤ x3 then
      rz (1 : Int32) g
    else
      bd2 (f5_letYearPass 131 g) fun r4 g3 =>
      if r4 = 0 then
        nx (x3 + (1 : Int32)) fun v6 =>
        f5_staysIfDry_b7 n x2 v6 g3
      else
        rz (0 : Int32) g3
def f5_staysIfDry (x1 : Int32) (x2 : Int32) (g : Sg) : Option (Int32 × Sg) :=
  bd (f5_beginWetThen x1 g) fun g8 =>
  f5_staysIfDry_b7 1000 x2 (0 : Int32) g8
def f5_drain_b56 (k21 : Int32 → Int32 → Int32 → Int32 → Sg → Option (Int32 × Sg)) (x1 : Int32) (x2 : Int32) (x3 : Int32) (x4 : Int32) (g : Sg) : Option (Int32 × Sg) :=
  nx (x4 + (1 : Int32)) fun v1 =>
  k21 x1 x2 x3 v1 g
def f5_drain_b21 : Nat → Int32 → Int32 → Int32 → Int32 → Sg → Option (Int32 × Sg)
  | 0, _, _, _, _, _ => none
  | n + 1, x1, x2, x3, x4, g =>
    if (64 : Int32) ≤ x4 then
      some (x2, g)
    else
      bd2 (f9_bitCount x4 g) fun r5 g4 =>
      if x3 ≤ r5 then
        f5_drain_b56 (f5_drain_b21 n) x1 x2 x3 x4 g4
      else
        bd2 (f5_staysIfDry x4 x1 g4) fun r9 g8 =>
        if r9 = 0 then
          f5_drain_b56 (f5_drain_b21 n) x1 x2 x3 x4 g8
        else
          bd2 (f9_bitCount x4 g8) fun r13 g12 =>
          f5_drain_b56 (f5_drain_b21 n) x1 x4 r13 x4 g12
def f5_drain (x1 : Int32) (g : Sg) : Option (Int32 × Sg) :=
  if x1 < 0 then
    some ((-1 : Int32), g)
  else
    if x1 ≤ (20 : Int32) then
      f5_drain_b21 1000 x1 (-9 : Int32) (7 : Int32) (0 : Int32) g
    else
      some ((-1 : Int32), g)
def f5_choices_b4 : Nat → Int32 → Int32 → Int32 → Int32 → Sg → Option (Int32 × Sg)
  | 0, _, _, _, _, _ => none
  | n + 1, x0, x1, x2, x3, g =>
    if x1 < x3 then
      some (x2, g)
    else
      nz x3 <|
      nx ((x2 * ((x0 - x3) + (1 : Int32))) / x3) fun v3 =>
      nx (x3 + (1 : Int32)) fun v4 =>
      f5_choices_b4 n x0 x1 v3 v4 g
def f5_choices (x0 : Int32) (x1 : Int32) (g : Sg) : Option (Int32 × Sg) :=
  f5_choices_b4 1000 x0 x1 (1 : Int32) (1 : Int32) g
def f5_power_b4 : Nat → Int32 → Int32 → Int32 → Int32 → Sg → Option (Int32 × Sg)
  | 0, _, _, _, _, _ => none
  | n + 1, x0, x1, x2, x3, g =>
    if x1 ≤ x3 then
      some (x2, g)
    else
      nx (x2 * x0) fun v2 =>
      nx (x3 + (1 : Int32)) fun v3 =>
      f5_power_b4 n x0 x1 v2 v3 g
def f5_power (x0 : Int32) (x1 : Int32) (g : Sg) : Option (Int32 × Sg) :=
  f5_power_b4 1000 x0 x1 (1 : Int32) (0 : Int32) g
def f5_commonDivisor_b7 : Nat → Int32 → Int32 → Int32 → Sg → Option (Int32 × Sg)
  | 0, _, _, _, _ => none
  | n + 1, x2, x3, x4, g =>
    if (64 : Int32) ≤ x4 then
      some (x2, g)
    else
      if x3 = 0 then
        some (x2, g)
      else
        nz x3 <|
        nx (x2 - x2 / x3 * x3) fun v4 =>
        nx (x4 + (1 : Int32)) fun v5 =>
        f5_commonDivisor_b7 n x3 v4 v5 g
def f5_commonDivisor (x0 : Int32) (x1 : Int32) (g : Sg) : Option (Int32 × Sg) :=
  f5_commonDivisor_b7 1000 x0 x1 (0 : Int32) g
def f5_odds_b49 : Nat → Int32 → Int32 → Int32 → Int32 → Int32 → Sg → Option (Int32 × Sg)
  | 0, _, _, _, _, _, _ => none
  | n + 1, x1, x2, x4, x5, x6, g =>
    if x2 < x6 then
      bd2 (f5_power (10 : Int32) x2 g) fun r4 g3 =>
      bd2 (f5_commonDivisor x5 r4 g3) fun r7 g6 =>
      if (1 : Int32) ≤ r7 then
        if x4 = 0 then
          nz r7 <|
          some ((x5 / r7), g6)
        else
          nz r7 <|
          some ((r4 / r7), g6)
      else
        some ((-1 : Int32), g6)
    else
      bd2 (f5_choices x2 x6 g) fun r14 g13 =>
      bd2 (f5_power x1 x6 g13) fun r17 g16 =>
      bd2 (f5_power ((10 : Int32) - x1) (x2 - x6) g16) fun r20 g19 =>
      nx (x5 + ((r14 * r17) * r20)) fun v21 =>
      nx (x6 + (1 : Int32)) fun v22 =>
      f5_odds_b49 n x1 x2 x4 v21 v22 g19
def f5_odds (x1 : Int32) (x2 : Int32) (x3 : Int32) (x4 : Int32) (g : Sg) : Option (Int32 × Sg) :=
  if x1 < 0 then
    some ((-1 : Int32), g)
  else
    if (10 : Int32) < x1 then
      some ((-1 : Int32), g)
    else
      if x2 < 0 then
        some ((-1 : Int32), g)
      else
        if (6 : Int32) < x2 then
          some ((-1 : Int32), g)
        else
          if x3 < 0 then
            some ((-1 : Int32), g)
          else
            if (6 : Int32) < x3 then
              some ((-1 : Int32), g)
            else
              if x4 < 0 then
                some ((-1 : Int32), g)
              else
                if x4 ≤ (1 : Int32) then
                  f5_odds_b49 1000 x1 x2 x4 (0 : Int32) x3 g
                else
                  some ((-1 : Int32), g)
def f5_asWord (x1 : Int32) (g : Sg) : Option (Int32 × Sg) :=
  nx (pl g (g.2 + (1 : Int64))) fun g1 =>
  bd2 (f5_leftIn x1 (0 : Int32) g1) fun r4 g3 =>
  some (r4, g3)
def f5_asVow (x1 : Int32) (g : Sg) : Option (Int32 × Sg) :=
  nx (pl g (g.2 + (10 : Int64))) fun g1 =>
  bd2 (f5_asWord x1 g1) fun r4 g3 =>
  ix x1 8 <|
  some ((r4 + (g3.1 84 (x1.toNatClampNeg))), g3)
def f5_asLoan (x1 : Int32) (g : Sg) : Option (Int32 × Sg) :=
  nx (pl g (g.2 + (100 : Int64))) fun g1 =>
  bd2 (f5_asWord x1 g1) fun r4 g3 =>
  ix x1 8 <|
  some ((r4 - (g3.1 85 (x1.toNatClampNeg))), g3)
def f5_asBride (x1 : Int32) (g : Sg) : Option (Int32 × Sg) :=
  nx (pl g (g.2 + (1000 : Int64))) fun g1 =>
  bd2 (f5_asVow x1 g1) fun r4 g3 =>
  some (((2 : Int32) * r4), g3)
def f5_asOak (x1 : Int32) (g : Sg) : Option (Int32 × Sg) :=
  nx (pl g (g.2 + (10000 : Int64))) fun g1 =>
  bd2 (f5_asLoan x1 g1) fun r4 g3 =>
  some ((r4 + x1), g3)
def f5_asThumb (x1 : Int32) (g : Sg) : Option (Int32 × Sg) :=
  nx (pl g (g.2 + (100000 : Int64))) fun g1 =>
  bd2 (f5_asWord x1 g1) fun r4 g3 =>
  some ((r4 + (g3.1 5 0)), g3)
def f5_rate (x1 : Int32) (x2 : Int32) (g : Sg) : Option (Int32 × Sg) :=
  bd2 (f4_hasPromise x2 g) fun r3 g2 =>
  if r3 = 0 then
    some ((-1000000 : Int32), g2)
  else
    if x1 = (0 : Int32) then
      bd2 (f5_asWord x2 g2) fun r8 g7 =>
      some (r8, g7)
    else
    if x1 = (1 : Int32) then
      bd2 (f5_asVow x2 g2) fun r12 g11 =>
      some (r12, g11)
    else
    if x1 = (2 : Int32) then
      bd2 (f5_asLoan x2 g2) fun r16 g15 =>
      some (r16, g15)
    else
    if x1 = (3 : Int32) then
      bd2 (f5_asBride x2 g2) fun r20 g19 =>
      some (r20, g19)
    else
    if x1 = (4 : Int32) then
      bd2 (f5_asOak x2 g2) fun r24 g23 =>
      some (r24, g23)
    else
    if x1 = (5 : Int32) then
      bd2 (f5_asThumb x2 g2) fun r28 g27 =>
      some (r28, g27)
    else
    some ((-1000000 : Int32), g2)
def f5_keep (x1 : Int32) (g : Sg) : Option (Int32 × Sg) :=
  if x1 < 0 then
    some ((-1 : Int32), g)
  else
    if (2 : Int32) ≤ x1 then
      some ((-1 : Int32), g)
    else
      ix x1 2 <|
      ix x1 2 <|
      bd (f0_become (x1.toNatClampNeg + 1) 0 g) fun g6 =>
      ix x1 2 <|
      nx (pu g6 133 (x1.toNatClampNeg) (1 : Int32)) fun g8 =>
      some ((g8.1 5 0), g8)
def f5_back (x1 : Int32) (g : Sg) : Option (Int32 × Sg) :=
  if x1 < 0 then
    some ((-1 : Int32), g)
  else
    if (2 : Int32) ≤ x1 then
      some ((-1 : Int32), g)
    else
      ix x1 2 <|
      ix x1 2 <|
      if (g.1 133 (x1.toNatClampNeg)) = 0 then
        some ((-2 : Int32), g)
      else
        ix x1 2 <|
        bd (f0_become 0 (x1.toNatClampNeg + 1) g) fun g8 =>
        bd (f1_empty g8) fun g10 =>
        some ((g10.1 5 0), g10)
def f5_count (x1 : Int32) (g : Sg) : Option (Int32 × Sg) :=
  if x1 = (0 : Int32) then
    some ((g.1 90 0), g)
  else
  if x1 = (1 : Int32) then
    some ((g.1 90 1), g)
  else
  if x1 = (2 : Int32) then
    some ((g.1 90 2), g)
  else
  if x1 = (3 : Int32) then
    some ((g.1 90 3), g)
  else
  if x1 = (4 : Int32) then
    some ((g.1 134 0), g)
  else
  if x1 = (5 : Int32) then
    some ((g.1 121 0), g)
  else
  some ((-1 : Int32), g)
def f5_trace (g : Sg) : Option (Int64 × Sg) :=
  some (g.2, g)
