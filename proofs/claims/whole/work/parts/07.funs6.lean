def f6_in (x0 : Int32) (x1 : Int32) (x2 : Int32) (g : Sg) : Option (Int32 × Sg) :=
  if x0 < x1 then
    rz (0 : Int32) g
  else
    if x2 < x0 then
      rz (0 : Int32) g
    else
      rz (1 : Int32) g
def f6_ones_b4 : Nat → Int32 → Int32 → Int32 → Sg → Option (Int32 × Sg)
  | 0, _, _, _, _ => none
  | n + 1, x0, x1, x2, g =>
    if (8 : Int32) ≤ x2 then
      some (x1, g)
    else
      nx (x1 + ((x0 >>> (x2 &&& 31)) &&& (1 : Int32))) fun v2 =>
      nx (x2 + (1 : Int32)) fun v3 =>
      f6_ones_b4 n x0 v2 v3 g
def f6_ones (x0 : Int32) (g : Sg) : Option (Int32 × Sg) :=
  f6_ones_b4 1000 x0 (0 : Int32) (0 : Int32) g
def f6_type (x1 : Int32) (g : Sg) : Option (Int32 × Sg) :=
  nx (pu g 0 0 (0 : Int32)) fun g1 =>
  bd2 (f6_in x1 (0 : Int32) (255 : Int32) g1) fun r4 g3 =>
  if r4 = 0 then
    some ((-1 : Int32), g3)
  else
    if (g3.1 0 3) = (200 : Int32) then
      some ((-3 : Int32), g3)
    else
      ix (g3.1 0 3) 200 <|
      nx (pu g3 2 (((g3.1 0 3)).toNatClampNeg) x1) fun g8 =>
      nx (pu g8 0 3 ((g8.1 0 3) + (1 : Int32))) fun g9 =>
      some ((g9.1 0 3), g9)
def f6_clear (g : Sg) : Option (Int32 × Sg) :=
  nx (pu g 0 0 (0 : Int32)) fun g1 =>
  nx (g1.1 0 3) fun v2 =>
  nx (pu g1 0 3 (0 : Int32)) fun g3 =>
  some (v2, g3)
def f6_letterAt (x1 : Int32) (g : Sg) : Option (Int32 × Sg) :=
  if (g.1 0 3) ≤ x1 then
    some ((-1 : Int32), g)
  else
    ix x1 200 <|
    some ((g.1 2 (x1.toNatClampNeg)), g)
def f6_isLetter_b30 (g : Sg) : Option (Int32 × Sg) :=
  rz (1 : Int32) g
def f6_isLetter (x0 : Int32) (g : Sg) : Option (Int32 × Sg) :=
  if x0 = (112 : Int32) then
    f6_isLetter_b30 g
  else
    if x0 = (109 : Int32) then
      f6_isLetter_b30 g
    else
      if x0 = (120 : Int32) then
        f6_isLetter_b30 g
      else
        if x0 = (97 : Int32) then
          f6_isLetter_b30 g
        else
          if x0 = (115 : Int32) then
            f6_isLetter_b30 g
          else
            rz (0 : Int32) g
def f6_advances_b219 (y0 : Int32) (g : Sg) : Option (Sg) :=
  nx (pu g 0 5 y0) fun g1 =>
  some g1
def f6_advances_b175 (y0 : Int32) (g : Sg) : Option (Sg) :=
  nx (pu g 0 5 y0) fun g2 =>
  some g2
def f6_advances_b174 (g : Sg) : Option (Sg) :=
  f6_advances_b175 (2 : Int32) g
def f6_advances_b170 (g : Sg) : Option (Sg) :=
  f6_advances_b175 (4 : Int32) g
def f6_advances_b125 (k71 : Int32 → Sg → Option (Sg)) (x1 : Int32) (y0 : Int32) (g : Sg) : Option (Sg) :=
  nx (pu g 0 7 y0) fun g3 =>
  nx (pu g3 0 4 ((g3.1 0 4) + (1 : Int32))) fun g4 =>
  k71 x1 g4
def f6_advances_b71 : Nat → Int32 → Sg → Option (Sg)
  | 0, _, _ => none
  | n + 1, x1, g =>
    bd2 (f6_letterAt (g.1 0 4) g) fun r7 g6 =>
    bd2 (f6_in r7 (48 : Int32) (57 : Int32) g6) fun r10 g9 =>
    if r10 = 0 then
      if (99 : Int32) < (g9.1 0 7) then
        f6_advances_b170 g9
      else
        if x1 = (48 : Int32) then
          if ((g9.1 0 4) - (g9.1 0 6)) ≤ (1 : Int32) then
            f6_advances_b174 g9
          else
            f6_advances_b170 g9
        else
          f6_advances_b174 g9
    else
      if (g9.1 0 7) ≤ (99 : Int32) then
        bd2 (f6_letterAt (g9.1 0 4) g9) fun r18 g17 =>
        f6_advances_b125 (f6_advances_b71 n) x1 ((((10 : Int32) * (g9.1 0 7)) + r18) - (48 : Int32)) g17
      else
        f6_advances_b125 (f6_advances_b71 n) x1 (g9.1 0 7) g9
def f6_advances_b0 : Nat → Sg → Option (Sg)
  | 0, _ => none
  | n + 1, g =>
    bd2 (f6_letterAt (g.1 0 4) g) fun r21 g20 =>
    if r21 = (32 : Int32) then
      nx (pu g20 0 4 ((g20.1 0 4) + (1 : Int32))) fun g41 =>
      f6_advances_b0 n g41
    else
      nx (pu g20 0 6 (g20.1 0 4)) fun g23 =>
      bd2 (f6_letterAt (g23.1 0 4) g23) fun r26 g25 =>
      if 0 ≤ r26 then
        bd2 (f6_in r26 (48 : Int32) (57 : Int32) g25) fun r30 g29 =>
        if r30 = 0 then
          nx (pu g29 0 4 ((g29.1 0 4) + (1 : Int32))) fun g32 =>
          nx (pu g32 0 7 r26) fun g33 =>
          if r26 = (59 : Int32) then
            f6_advances_b219 (3 : Int32) g33
          else
            bd2 (f6_isLetter r26 g33) fun r37 g36 =>
            if r37 = 0 then
              f6_advances_b219 (4 : Int32) g36
            else
              f6_advances_b219 (1 : Int32) g36
        else
          nx (pu g29 0 7 (0 : Int32)) fun g39 =>
          f6_advances_b71 1000 r26 g39
      else
        nx (pu g25 0 5 (0 : Int32)) fun g40 =>
        some g40
def f6_advances (g : Sg) : Option (Sg) := f6_advances_b0 1000 g
def f6_isWell (g : Sg) : Option (Int32 × Sg) :=
  if 0 ≤ (g.1 0 8) then
    rz (0 : Int32) g
  else
    rz (1 : Int32) g
def f6_takes (x1 : Int32) (g : Sg) : Option (Int32 × Sg) :=
  bd2 (f6_isWell g) fun r3 g2 =>
  if r3 = 0 then
    some ((0 : Int32), g2)
  else
    if x1 = 0 then
      nx (pu g2 0 8 (g2.1 0 6)) fun g9 =>
      some ((0 : Int32), g9)
    else
      nx (g2.1 0 7) fun v6 =>
      bd (f6_advances g2) fun g8 =>
      some (v6, g8)
def f6_number_b26 (y0 : Int32) (g : Sg) : Option (Int32 × Sg) :=
  bd2 (f6_takes y0 g) fun r3 g2 =>
  some (r3, g2)
def f6_number_b25 (g : Sg) : Option (Int32 × Sg) :=
  f6_number_b26 (0 : Int32) g
def f6_number (x1 : Int32) (x2 : Int32) (g : Sg) : Option (Int32 × Sg) :=
  if (g.1 0 5) = (2 : Int32) then
    bd2 (f6_in (g.1 0 7) x1 x2 g) fun r7 g6 =>
    if r7 = 0 then
      f6_number_b25 g6
    else
      f6_number_b26 (1 : Int32) g6
  else
    f6_number_b25 g
def f6_begins_b40 : Nat → Int32 → Sg → Option (Sg)
  | 0, _, _ => none
  | n + 1, x1, g =>
    if (16 : Int32) ≤ x1 then
      some g
    else
      ix x1 16 <|
      nx (pu g 20 (x1.toNatClampNeg) (0 : Int32)) fun g3 =>
      nx (x1 + (1 : Int32)) fun v4 =>
      f6_begins_b40 n v4 g3
def f6_begins (g : Sg) : Option (Sg) :=
  nx (pu g 0 10 (0 : Int32)) fun g5 =>
  nx (pu g5 9 4 (0 : Int32)) fun g6 =>
  nx (pu g6 9 5 (0 : Int32)) fun g7 =>
  nx (pu g7 9 6 (10 : Int32)) fun g8 =>
  nx (pu g8 9 7 (12 : Int32)) fun g9 =>
  f6_begins_b40 1000 (8 : Int32) g9
def f6_mayBegin_b94 (g : Sg) : Option (Int32 × Sg) :=
  rz (1 : Int32) g
def f6_mayBegin_b90 (y0 : Int32) (y1 : Int32) (g : Sg) : Option (Int32 × Sg) :=
  if (y1 &&& y0) = 0 then
    f6_mayBegin_b94 g
  else
    rz (0 : Int32) g
def f6_mayBegin_b18 (g : Sg) : Option (Int32 × Sg) :=
  if (g.1 0 7) = (112 : Int32) then
    if (6 : Int32) ≤ (g.1 9 4) then
      rz (0 : Int32) g
    else
      rz (1 : Int32) g
  else
    if (8 : Int32) ≤ (g.1 9 5) then
      rz (0 : Int32) g
    else
      rz (1 : Int32) g
def f6_mayBegin (g : Sg) : Option (Int32 × Sg) :=
  if (g.1 0 7) = (112 : Int32) then
    f6_mayBegin_b18 g
  else
    if (g.1 0 7) = (109 : Int32) then
      f6_mayBegin_b18 g
    else
      if (g.1 0 7) = (120 : Int32) then
        f6_mayBegin_b94 g
      else
        if (g.1 0 7) = (97 : Int32) then
          f6_mayBegin_b90 (1 : Int32) (g.1 0 10) g
        else
          f6_mayBegin_b90 (2 : Int32) (g.1 0 10) g
def f6_readsPromise_b160 (x1 : Int32) (x2 : Int32) (g : Sg) : Option (Sg) :=
  ix x1 16 <|
  nx (pu g 18 (x1.toNatClampNeg) x2) fun g2 =>
  nx (pu g2 9 5 ((g2.1 9 5) + (1 : Int32))) fun g3 =>
  some g3
def f6_readsPromise_b157 (k81 : Int32 → Int32 → Sg → Option (Sg)) (x1 : Int32) (x2 : Int32) (g : Sg) : Option (Sg) :=
  k81 x1 x2 g
def f6_readsPromise_b132 (k81 : Int32 → Int32 → Sg → Option (Sg)) (x1 : Int32) (x2 : Int32) (y0 : Int32) (g : Sg) : Option (Sg) :=
  bd2 (f6_takes y0 g) fun r6 g5 =>
  bd2 (f6_isWell g5) fun r9 g8 =>
  if r9 = 0 then
    f6_readsPromise_b157 k81 x1 x2 g8
  else
    ix (((4 : Int32) * x1) + x2) 64 <|
    nx (pu g8 19 (((((4 : Int32) * x1) + x2)).toNatClampNeg) r6) fun g12 =>
    nx (x2 + (1 : Int32)) fun v13 =>
    f6_readsPromise_b157 k81 x1 v13 g12
def f6_readsPromise_b131 (k81 : Int32 → Int32 → Sg → Option (Sg)) (x1 : Int32) (x2 : Int32) (g : Sg) : Option (Sg) :=
  f6_readsPromise_b132 k81 x1 x2 (0 : Int32) g
def f6_readsPromise_b100 (k81 : Int32 → Int32 → Sg → Option (Sg)) (x1 : Int32) (x2 : Int32) (g : Sg) : Option (Sg) :=
  if (4 : Int32) ≤ x2 then
    f6_readsPromise_b131 k81 x1 x2 g
  else
    if (g.1 0 5) = (2 : Int32) then
      bd2 (f6_in (g.1 0 7) (0 : Int32) (9 : Int32) g) fun r18 g17 =>
      if r18 = 0 then
        f6_readsPromise_b131 k81 x1 x2 g17
      else
        f6_readsPromise_b132 k81 x1 x2 (1 : Int32) g17
    else
      f6_readsPromise_b131 k81 x1 x2 g
def f6_readsPromise_b81 : Nat → Int32 → Int32 → Sg → Option (Sg)
  | 0, _, _, _ => none
  | n + 1, x1, x2, g =>
    bd2 (f6_isWell g) fun r22 g21 =>
    if r22 = 0 then
      f6_readsPromise_b160 x1 x2 g21
    else
      if x2 = 0 then
        f6_readsPromise_b100 (f6_readsPromise_b81 n) x1 x2 g21
      else
        if (g21.1 0 5) = (3 : Int32) then
          f6_readsPromise_b160 x1 x2 g21
        else
          f6_readsPromise_b100 (f6_readsPromise_b81 n) x1 x2 g21
def f6_readsPromise (g : Sg) : Option (Sg) :=
  nx ((8 : Int32) + (g.1 9 5)) fun v26 =>
  bd2 (f6_number (0 : Int32) ((g.1 9 4) - (1 : Int32)) g) fun r29 g28 =>
  ix v26 16 <|
  nx (pu g28 13 (v26.toNatClampNeg) r29) fun g31 =>
  bd2 (f6_number (0 : Int32) (5 : Int32) g31) fun r34 g33 =>
  ix v26 16 <|
  nx (pu g33 14 (v26.toNatClampNeg) r34) fun g36 =>
  bd2 (f6_number (0 : Int32) (5 : Int32) g36) fun r39 g38 =>
  ix v26 16 <|
  nx (pu g38 15 (v26.toNatClampNeg) r39) fun g41 =>
  bd2 (f6_number (1 : Int32) (9 : Int32) g41) fun r44 g43 =>
  ix v26 16 <|
  nx (pu g43 16 (v26.toNatClampNeg) r44) fun g46 =>
  bd2 (f6_number (0 : Int32) (99 : Int32) g46) fun r49 g48 =>
  ix v26 16 <|
  nx (pu g48 17 (v26.toNatClampNeg) r49) fun g51 =>
  f6_readsPromise_b81 1000 v26 (0 : Int32) g51
def f6_readsClash_b50 (x2 : Int32) (y0 : Int32) (g : Sg) : Option (Sg) :=
  bd2 (f6_takes y0 g) fun r3 g2 =>
  bd2 (f6_isWell g2) fun r6 g5 =>
  if r6 = 0 then
    some g5
  else
    ix ((8 : Int32) + x2) 16 <|
    ix ((8 : Int32) + x2) 16 <|
    nx (pu g5 20 ((((8 : Int32) + x2)).toNatClampNeg) ((g5.1 20 ((((8 : Int32) + x2)).toNatClampNeg)) ||| ((1 : Int32) <<< (r3 &&& 31)))) fun g10 =>
    ix ((8 : Int32) + r3) 16 <|
    ix ((8 : Int32) + r3) 16 <|
    nx (pu g10 20 ((((8 : Int32) + r3)).toNatClampNeg) ((g10.1 20 ((((8 : Int32) + r3)).toNatClampNeg)) ||| ((1 : Int32) <<< (x2 &&& 31)))) fun g13 =>
    some g13
def f6_readsClash_b49 (x2 : Int32) (g : Sg) : Option (Sg) :=
  f6_readsClash_b50 x2 (0 : Int32) g
def f6_readsClash (g : Sg) : Option (Sg) :=
  nx ((g.1 9 5) - (1 : Int32)) fun v14 =>
  bd2 (f6_number (0 : Int32) v14 g) fun r17 g16 =>
  if (g16.1 0 5) = (2 : Int32) then
    bd2 (f6_in (g16.1 0 7) (0 : Int32) v14 g16) fun r21 g20 =>
    if r21 = 0 then
      f6_readsClash_b49 r17 g20
    else
      if (g20.1 0 7) = r17 then
        f6_readsClash_b49 r17 g20
      else
        f6_readsClash_b50 r17 (1 : Int32) g20
  else
    f6_readsClash_b49 r17 g16
def f6_readsItem_b184 (y0 : Int32) (y1 : Int32) (g : Sg) : Option (Sg) :=
  nx (pu g 0 10 (y1 ||| y0)) fun g1 =>
  some g1
def f6_readsItem_b164 (x1 : Int32) (y0 : Int32) (y1 : Int32) (y3 : Int32) (g : Sg) : Option (Sg) :=
  bd2 (f6_number y1 y0 g) fun r4 g3 =>
  ix y3 8 <|
  nx (pu g3 9 (y3.toNatClampNeg) r4) fun g6 =>
  if x1 = (97 : Int32) then
    f6_readsItem_b184 (1 : Int32) (g6.1 0 10) g6
  else
    f6_readsItem_b184 (2 : Int32) (g6.1 0 10) g6
def f6_readsItem_b141 (x1 : Int32) (y0 : Int32) (g : Sg) : Option (Sg) :=
  if x1 = (97 : Int32) then
    f6_readsItem_b164 x1 (20 : Int32) (1 : Int32) ((4 : Int32) + y0) g
  else
    f6_readsItem_b164 x1 (27 : Int32) (1 : Int32) ((4 : Int32) + y0) g
def f6_readsItem_b90 (y0 : Int32) (y1 : Int32) (g : Sg) : Option (Sg) :=
  ix y1 12 <|
  nx (pu g 12 (y1.toNatClampNeg) y0) fun g10 =>
  nx (pu g10 9 4 ((g10.1 9 4) + (1 : Int32))) fun g11 =>
  some g11
def f6_readsItem_b66 (x2 : Int32) (y0 : Int32) (g : Sg) : Option (Sg) :=
  bd2 (f6_takes y0 g) fun r14 g13 =>
  if r14 = (9 : Int32) then
    f6_readsItem_b90 (-9 : Int32) ((6 : Int32) + x2) g13
  else
    f6_readsItem_b90 r14 ((6 : Int32) + x2) g13
def f6_readsItem_b65 (x2 : Int32) (g : Sg) : Option (Sg) :=
  f6_readsItem_b66 x2 (0 : Int32) g
def f6_readsItem_b61 (x2 : Int32) (g : Sg) : Option (Sg) :=
  f6_readsItem_b66 x2 (1 : Int32) g
def f6_readsItem (x1 : Int32) (g : Sg) : Option (Sg) :=
  if x1 = (112 : Int32) then
    nx (g.1 9 4) fun v24 =>
    bd2 (f6_number (0 : Int32) (99 : Int32) g) fun r27 g26 =>
    ix ((6 : Int32) + v24) 12 <|
    nx (pu g26 11 ((((6 : Int32) + v24)).toNatClampNeg) r27) fun g29 =>
    if (g29.1 0 5) = (2 : Int32) then
      bd2 (f6_in (g29.1 0 7) (0 : Int32) (v24 - (1 : Int32)) g29) fun r33 g32 =>
      if r33 = 0 then
        if (g32.1 0 7) = (9 : Int32) then
          f6_readsItem_b61 v24 g32
        else
          f6_readsItem_b65 v24 g32
      else
        f6_readsItem_b61 v24 g32
    else
      f6_readsItem_b65 v24 g29
  else
    if x1 = (109 : Int32) then
      bd (f6_readsPromise g) fun g23 =>
      some g23
    else
      if x1 = (120 : Int32) then
        bd (f6_readsClash g) fun g21 =>
        some g21
      else
        if x1 = (97 : Int32) then
          f6_readsItem_b141 x1 (2 : Int32) g
        else
          f6_readsItem_b141 x1 (3 : Int32) g
def f6_settles_b221 : Nat → Int32 → Sg → Option (Sg)
  | 0, _, _ => none
  | n + 1, x1, g =>
    if (37 : Int32) ≤ x1 then
      nx (pu g 0 3 (0 : Int32)) fun g2 =>
      nx (pu g2 0 27 (0 : Int32)) fun g3 =>
      nx (pu g3 0 25 (0 : Int32)) fun g4 =>
      nx (pu g4 23 0 (0 : Int32)) fun g5 =>
      nx (pu g5 23 1 (0 : Int32)) fun g6 =>
      some g6
    else
      ix x1 37 <|
      nx (pu g 21 (x1.toNatClampNeg) (0 : Int32)) fun g8 =>
      nx (x1 + (1 : Int32)) fun v9 =>
      f6_settles_b221 n v9 g8
def f6_settles_b192 : Nat → Int32 → Sg → Option (Sg)
  | 0, _, _ => none
  | n + 1, x1, g =>
    if (32 : Int32) ≤ x1 then
      f6_settles_b221 1000 (0 : Int32) g
    else
      ix ((32 : Int32) + x1) 64 <|
      ix x1 64 <|
      nx (pu g 19 (x1.toNatClampNeg) (g.1 19 ((((32 : Int32) + x1)).toNatClampNeg))) fun g13 =>
      nx (x1 + (1 : Int32)) fun v14 =>
      f6_settles_b192 n v14 g13
def f6_settles_b73 : Nat → Int32 → Sg → Option (Sg)
  | 0, _, _ => none
  | n + 1, x1, g =>
    if (8 : Int32) ≤ x1 then
      f6_settles_b192 1000 (0 : Int32) g
    else
      ix ((8 : Int32) + x1) 16 <|
      ix x1 16 <|
      nx (pu g 13 (x1.toNatClampNeg) (g.1 13 ((((8 : Int32) + x1)).toNatClampNeg))) fun g18 =>
      ix ((8 : Int32) + x1) 16 <|
      ix x1 16 <|
      nx (pu g18 14 (x1.toNatClampNeg) (g18.1 14 ((((8 : Int32) + x1)).toNatClampNeg))) fun g21 =>
      ix ((8 : Int32) + x1) 16 <|
      ix x1 16 <|
      nx (pu g21 15 (x1.toNatClampNeg) (g21.1 15 ((((8 : Int32) + x1)).toNatClampNeg))) fun g24 =>
      ix ((8 : Int32) + x1) 16 <|
      ix x1 16 <|
      nx (pu g24 16 (x1.toNatClampNeg) (g24.1 16 ((((8 : Int32) + x1)).toNatClampNeg))) fun g27 =>
      ix ((8 : Int32) + x1) 16 <|
      ix x1 16 <|
      nx (pu g27 17 (x1.toNatClampNeg) (g27.1 17 ((((8 : Int32) + x1)).toNatClampNeg))) fun g30 =>
      ix ((8 : Int32) + x1) 16 <|
      ix x1 16 <|
      nx (pu g30 18 (x1.toNatClampNeg) (g30.1 18 ((((8 : Int32) + x1)).toNatClampNeg))) fun g33 =>
      ix ((8 : Int32) + x1) 16 <|
      ix x1 16 <|
      nx (pu g33 20 (x1.toNatClampNeg) (g33.1 20 ((((8 : Int32) + x1)).toNatClampNeg))) fun g36 =>
      nx (x1 + (1 : Int32)) fun v37 =>
      f6_settles_b73 n v37 g36
def f6_settles_b29 : Nat → Int32 → Sg → Option (Sg)
  | 0, _, _ => none
  | n + 1, x1, g =>
    if (6 : Int32) ≤ x1 then
      f6_settles_b73 1000 (0 : Int32) g
    else
      ix ((6 : Int32) + x1) 12 <|
      ix x1 12 <|
      nx (pu g 11 (x1.toNatClampNeg) (g.1 11 ((((6 : Int32) + x1)).toNatClampNeg))) fun g41 =>
      ix ((6 : Int32) + x1) 12 <|
      ix x1 12 <|
      nx (pu g41 12 (x1.toNatClampNeg) (g41.1 12 ((((6 : Int32) + x1)).toNatClampNeg))) fun g44 =>
      nx (x1 + (1 : Int32)) fun v45 =>
      f6_settles_b29 n v45 g44
def f6_settles_b2 : Nat → Int32 → Sg → Option (Sg)
  | 0, _, _ => none
  | n + 1, x1, g =>
    if (4 : Int32) ≤ x1 then
      f6_settles_b29 1000 (0 : Int32) g
    else
      ix ((4 : Int32) + x1) 8 <|
      ix x1 8 <|
      nx (pu g 9 (x1.toNatClampNeg) (g.1 9 ((((4 : Int32) + x1)).toNatClampNeg))) fun g49 =>
      nx (x1 + (1 : Int32)) fun v50 =>
      f6_settles_b2 n v50 g49
def f6_settles (g : Sg) : Option (Sg) :=
  f6_settles_b2 1000 (0 : Int32) g
def f6_moss_b100 (x1 : Int32) (g : Sg) : Option (Int32 × Sg) :=
  bd2 (f6_isWell g) fun r3 g2 =>
  if r3 = 0 then
    some (((-10 : Int32) - (g2.1 0 8)), g2)
  else
    bd (f6_settles g2) fun g6 =>
    some (x1, g6)
def f6_moss_b90 (k25 : Int32 → Sg → Option (Int32 × Sg)) (x1 : Int32) (y0 : Int32) (g : Sg) : Option (Int32 × Sg) :=
  bd2 (f6_takes y0 g) fun r9 g8 =>
  nx (x1 + (1 : Int32)) fun v10 =>
  k25 v10 g8
def f6_moss_b76 (k25 : Int32 → Sg → Option (Int32 × Sg)) (x1 : Int32) (g : Sg) : Option (Int32 × Sg) :=
  if (g.1 0 5) = (3 : Int32) then
    f6_moss_b90 k25 x1 (1 : Int32) g
  else
    f6_moss_b90 k25 x1 (0 : Int32) g
def f6_moss_b60 (k25 : Int32 → Sg → Option (Int32 × Sg)) (x1 : Int32) (y0 : Int32) (g : Sg) : Option (Int32 × Sg) :=
  bd2 (f6_takes y0 g) fun r14 g13 =>
  bd2 (f6_isWell g13) fun r17 g16 =>
  if r17 = 0 then
    f6_moss_b76 k25 x1 g16
  else
    bd (f6_readsItem r14 g16) fun g20 =>
    f6_moss_b76 k25 x1 g20
def f6_moss_b59 (k25 : Int32 → Sg → Option (Int32 × Sg)) (x1 : Int32) (g : Sg) : Option (Int32 × Sg) :=
  f6_moss_b60 k25 x1 (0 : Int32) g
def f6_moss_b25 : Nat → Int32 → Sg → Option (Int32 × Sg)
  | 0, _, _ => none
  | n + 1, x1, g =>
    bd2 (f6_isWell g) fun r23 g22 =>
    if r23 = 0 then
      f6_moss_b100 x1 g22
    else
      if (g22.1 0 5) = 0 then
        f6_moss_b100 x1 g22
      else
        if (g22.1 0 5) = (1 : Int32) then
          bd2 (f6_mayBegin g22) fun r29 g28 =>
          if r29 = 0 then
            f6_moss_b59 (f6_moss_b25 n) x1 g28
          else
            f6_moss_b60 (f6_moss_b25 n) x1 (1 : Int32) g28
        else
          f6_moss_b59 (f6_moss_b25 n) x1 g22
def f6_moss (g : Sg) : Option (Int32 × Sg) :=
  nx (pu g 0 0 (0 : Int32)) fun g31 =>
  nx (pu g31 0 8 (-1 : Int32)) fun g32 =>
  nx (pu g32 0 4 (0 : Int32)) fun g33 =>
  bd (f6_begins g33) fun g35 =>
  bd (f6_advances g35) fun g37 =>
  f6_moss_b25 1000 (0 : Int32) g37
def f6_isPromise (x1 : Int32) (g : Sg) : Option (Int32 × Sg) :=
  bd2 (f6_in x1 (0 : Int32) ((g.1 9 1) - (1 : Int32)) g) fun r3 g2 =>
  rz r3 g2
def f6_isCell (x0 : Int32) (g : Sg) : Option (Int32 × Sg) :=
  bd2 (f6_in x0 (0 : Int32) (5 : Int32) g) fun r3 g2 =>
  rz r3 g2
def f6_those_b35 (k4 : Int32 → Int32 → Int32 → Sg → Option (Int32 × Sg)) (x1 : Int32) (x3 : Int32) (y0 : Int32) (y1 : Int32) (g : Sg) : Option (Int32 × Sg) :=
  nx (y1 ||| y0) fun v1 =>
  nx (x3 + (1 : Int32)) fun v2 =>
  k4 x1 v1 v2 g
def f6_those_b4 : Nat → Int32 → Int32 → Int32 → Sg → Option (Int32 × Sg)
  | 0, _, _, _, _ => none
  | n + 1, x1, x2, x3, g =>
    if (g.1 9 1) ≤ x3 then
      some (x2, g)
    else
      ix ((13 : Int32) + x3) 37 <|
      if (g.1 21 ((((13 : Int32) + x3)).toNatClampNeg)) = x1 then
        f6_those_b35 (f6_those_b4 n) x1 x3 ((1 : Int32) <<< (x3 &&& 31)) x2 g
      else
        f6_those_b35 (f6_those_b4 n) x1 x3 (0 : Int32) x2 g
def f6_those (x1 : Int32) (g : Sg) : Option (Int32 × Sg) :=
  f6_those_b4 1000 x1 (0 : Int32) (0 : Int32) g
def f6_lyingIn_b44 (k4 : Int32 → Int32 → Int32 → Sg → Option (Int32 × Sg)) (x1 : Int32) (x3 : Int32) (y0 : Int32) (y1 : Int32) (g : Sg) : Option (Int32 × Sg) :=
  nx (y1 ||| y0) fun v1 =>
  nx (x3 + (1 : Int32)) fun v2 =>
  k4 x1 v1 v2 g
def f6_lyingIn_b43 (k4 : Int32 → Int32 → Int32 → Sg → Option (Int32 × Sg)) (x1 : Int32) (x3 : Int32) (y0 : Int32) (g : Sg) : Option (Int32 × Sg) :=
  f6_lyingIn_b44 k4 x1 x3 (0 : Int32) y0 g
def f6_lyingIn_b4 : Nat → Int32 → Int32 → Int32 → Sg → Option (Int32 × Sg)
  | 0, _, _, _, _ => none
  | n + 1, x1, x2, x3, g =>
    if (g.1 9 1) ≤ x3 then
      some (x2, g)
    else
      ix ((13 : Int32) + x3) 37 <|
      if (g.1 21 ((((13 : Int32) + x3)).toNatClampNeg)) = 0 then
        ix x3 16 <|
        if (g.1 14 (x3.toNatClampNeg)) = x1 then
          f6_lyingIn_b44 (f6_lyingIn_b4 n) x1 x3 ((1 : Int32) <<< (x3 &&& 31)) x2 g
        else
          f6_lyingIn_b43 (f6_lyingIn_b4 n) x1 x3 x2 g
      else
        f6_lyingIn_b43 (f6_lyingIn_b4 n) x1 x3 x2 g
def f6_lyingIn (x1 : Int32) (g : Sg) : Option (Int32 × Sg) :=
  f6_lyingIn_b4 1000 x1 (0 : Int32) (0 : Int32) g
def f6_leftIn (x1 : Int32) (x2 : Int32) (g : Sg) : Option (Int32 × Sg) :=
  ix ((13 : Int32) + x1) 37 <|
  if (g.1 21 ((((13 : Int32) + x1)).toNatClampNeg)) = 0 then
    ix x1 16 <|
    ix x1 16 <|
    nz (g.1 9 2) <|
    ix ((29 : Int32) + x1) 37 <|
    nx (((g.1 18 (x1.toNatClampNeg)) - ((x2 * ((g.1 15 (x1.toNatClampNeg)) + (1 : Int32))) / (g.1 9 2))) - (g.1 21 ((((29 : Int32) + x1)).toNatClampNeg))) fun v7 =>
    if (1 : Int32) ≤ v7 then
      some (v7, g)
    else
      some ((1 : Int32), g)
  else
    ix ((13 : Int32) + x1) 37 <|
    if (g.1 21 ((((13 : Int32) + x1)).toNatClampNeg)) = (3 : Int32) then
      some ((0 : Int32), g)
    else
      ix ((21 : Int32) + x1) 37 <|
      some ((g.1 21 ((((21 : Int32) + x1)).toNatClampNeg)), g)
def f6_leftNow (x1 : Int32) (g : Sg) : Option (Int32 × Sg) :=
  bd2 (f6_leftIn x1 (g.1 21 0) g) fun r3 g2 =>
  some (r3, g2)
def f6_person (x1 : Int32) (x2 : Int32) (g : Sg) : Option (Int32 × Sg) :=
  nx (pu g 0 0 (0 : Int32)) fun g1 =>
  bd2 (f6_in x1 (0 : Int32) ((g1.1 9 0) - (1 : Int32)) g1) fun r4 g3 =>
  if r4 = 0 then
    some ((-1 : Int32), g3)
  else
    bd2 (f6_in x2 (0 : Int32) (1 : Int32) g3) fun r8 g7 =>
    if r8 = 0 then
      some ((-1 : Int32), g7)
    else
      if x2 = 0 then
        ix x1 12 <|
        some ((g7.1 11 (x1.toNatClampNeg)), g7)
      else
        ix x1 12 <|
        some ((g7.1 12 (x1.toNatClampNeg)), g7)
def f6_promise (x1 : Int32) (x2 : Int32) (g : Sg) : Option (Int32 × Sg) :=
  nx (pu g 0 0 (0 : Int32)) fun g1 =>
  bd2 (f6_isPromise x1 g1) fun r4 g3 =>
  if r4 = 0 then
    some ((-1 : Int32), g3)
  else
    bd2 (f6_in x2 (0 : Int32) (7 : Int32) g3) fun r8 g7 =>
    if r8 = 0 then
      some ((-1 : Int32), g7)
    else
      if (4 : Int32) ≤ x2 then
        if x2 = (4 : Int32) then
          ix x1 16 <|
          some ((g7.1 17 (x1.toNatClampNeg)), g7)
        else
          if x2 = (5 : Int32) then
            ix x1 16 <|
            some ((g7.1 18 (x1.toNatClampNeg)), g7)
          else
            if x2 = (6 : Int32) then
              ix x1 16 <|
              some ((g7.1 20 (x1.toNatClampNeg)), g7)
            else
              ix ((13 : Int32) + x1) 37 <|
              some ((g7.1 21 ((((13 : Int32) + x1)).toNatClampNeg)), g7)
      else
        if x2 = 0 then
          ix x1 16 <|
          some ((g7.1 13 (x1.toNatClampNeg)), g7)
        else
          if x2 = (1 : Int32) then
            ix x1 16 <|
            some ((g7.1 14 (x1.toNatClampNeg)), g7)
          else
            if x2 = (2 : Int32) then
              ix x1 16 <|
              some ((g7.1 15 (x1.toNatClampNeg)), g7)
            else
              ix x1 16 <|
              some ((g7.1 16 (x1.toNatClampNeg)), g7)
def f6_word (x1 : Int32) (x2 : Int32) (g : Sg) : Option (Int32 × Sg) :=
  nx (pu g 0 0 (0 : Int32)) fun g1 =>
  bd2 (f6_isPromise x1 g1) fun r4 g3 =>
  if r4 = 0 then
    some ((-1 : Int32), g3)
  else
    bd2 (f6_in x2 (0 : Int32) (3 : Int32) g3) fun r8 g7 =>
    if r8 = 0 then
      some ((-1 : Int32), g7)
    else
      bd2 (f6_leftNow x1 g7) fun r12 g11 =>
      if r12 ≤ x2 then
        some ((-9 : Int32), g11)
      else
        ix (((4 : Int32) * x1) + x2) 64 <|
        some ((g11.1 19 (((((4 : Int32) * x1) + x2)).toNatClampNeg)), g11)
def f6_slidesOf_b154 (k124 : Int32 → Int32 → Sg → Option (Int32 × Sg)) (x1 : Int32) (x2 : Int32) (y0 : Int32) (y1 : Int32) (g : Sg) : Option (Int32 × Sg) :=
  ix y1 6 <|
  nx (pu g 28 (y1.toNatClampNeg) y0) fun g2 =>
  nx (x2 + (1 : Int32)) fun v3 =>
  k124 x1 v3 g2
def f6_slidesOf_b124 : Nat → Int32 → Int32 → Sg → Option (Int32 × Sg)
  | 0, _, _, _ => none
  | n + 1, x1, x2, g =>
    if (6 : Int32) ≤ x2 then
      some (x1, g)
    else
      if ((x1 >>> (x2 &&& 31)) &&& (1 : Int32)) = (1 : Int32) then
        f6_slidesOf_b154 (f6_slidesOf_b124 n) x1 x2 (0 : Int32) x2 g
      else
        ix x2 6 <|
        f6_slidesOf_b154 (f6_slidesOf_b124 n) x1 x2 (g.1 28 (x2.toNatClampNeg)) x2 g
def f6_slidesOf_b114 (k48 : Int32 → Int32 → Sg → Option (Int32 × Sg)) (x2 : Int32) (y0 : Int32) (y1 : Int32) (g : Sg) : Option (Int32 × Sg) :=
  nx (y1 ||| y0) fun v7 =>
  nx (x2 + (1 : Int32)) fun v8 =>
  k48 v7 v8 g
def f6_slidesOf_b94 (k48 : Int32 → Int32 → Sg → Option (Int32 × Sg)) (x1 : Int32) (x2 : Int32) (y0 : Int32) (y1 : Int32) (g : Sg) : Option (Int32 × Sg) :=
  nx (y1 + y0) fun v9 =>
  if v9 < (g.1 9 3) then
    f6_slidesOf_b114 k48 x2 (0 : Int32) x1 g
  else
    f6_slidesOf_b114 k48 x2 ((1 : Int32) <<< (x2 &&& 31)) x1 g
def f6_slidesOf_b76 (k48 : Int32 → Int32 → Sg → Option (Int32 × Sg)) (x1 : Int32) (x2 : Int32) (y0 : Int32) (y1 : Int32) (g : Sg) : Option (Int32 × Sg) :=
  if (5 : Int32) ≤ x2 then
    f6_slidesOf_b94 k48 x1 x2 (0 : Int32) (y1 + y0) g
  else
    ix (x2 + (1 : Int32)) 6 <|
    f6_slidesOf_b94 k48 x1 x2 (g.1 28 (((x2 + (1 : Int32))).toNatClampNeg)) (y1 + y0) g
def f6_slidesOf_b48 : Nat → Int32 → Int32 → Sg → Option (Int32 × Sg)
  | 0, _, _, _ => none
  | n + 1, x1, x2, g =>
    if (6 : Int32) ≤ x2 then
      f6_slidesOf_b124 1000 x1 (0 : Int32) g
    else
      ix x2 6 <|
      if x2 ≤ 0 then
        f6_slidesOf_b76 (f6_slidesOf_b48 n) x1 x2 (0 : Int32) (g.1 28 (x2.toNatClampNeg)) g
      else
        ix (x2 - (1 : Int32)) 6 <|
        f6_slidesOf_b76 (f6_slidesOf_b48 n) x1 x2 (g.1 28 (((x2 - (1 : Int32))).toNatClampNeg)) (g.1 28 (x2.toNatClampNeg)) g
def f6_slidesOf_b39 (k4 : Int32 → Int32 → Sg → Option (Int32 × Sg)) (x1 : Int32) (x2 : Int32) (y0 : Int32) (y1 : Int32) (g : Sg) : Option (Int32 × Sg) :=
  ix y1 6 <|
  nx (pu g 28 (y1.toNatClampNeg) y0) fun g18 =>
  nx (x2 + (1 : Int32)) fun v19 =>
  k4 x1 v19 g18
def f6_slidesOf_b4 : Nat → Int32 → Int32 → Sg → Option (Int32 × Sg)
  | 0, _, _, _ => none
  | n + 1, x1, x2, g =>
    if (6 : Int32) ≤ x2 then
      f6_slidesOf_b48 1000 x1 (0 : Int32) g
    else
      ix x2 6 <|
      if (9 : Int32) ≤ (g.1 28 (x2.toNatClampNeg)) then
        f6_slidesOf_b39 (f6_slidesOf_b4 n) x1 x2 (9 : Int32) x2 g
      else
        ix x2 6 <|
        f6_slidesOf_b39 (f6_slidesOf_b4 n) x1 x2 ((g.1 28 (x2.toNatClampNeg)) + (1 : Int32)) x2 g
def f6_slidesOf (g : Sg) : Option (Int32 × Sg) :=
  f6_slidesOf_b4 1000 (0 : Int32) (0 : Int32) g
def f6_wetNow_b2 : Nat → Int32 → Sg → Option (Sg)
  | 0, _, _ => none
  | n + 1, x1, g =>
    if (6 : Int32) ≤ x1 then
      some g
    else
      ix ((7 : Int32) + x1) 37 <|
      ix x1 6 <|
      nx (pu g 28 (x1.toNatClampNeg) (g.1 21 ((((7 : Int32) + x1)).toNatClampNeg))) fun g4 =>
      nx (x1 + (1 : Int32)) fun v5 =>
      f6_wetNow_b2 n v5 g4
def f6_wetNow (g : Sg) : Option (Sg) :=
  f6_wetNow_b2 1000 (0 : Int32) g
def f6_slides_b6 : Nat → Int32 → Int32 → Sg → Option (Int32 × Sg)
  | 0, _, _, _ => none
  | n + 1, x1, x2, g =>
    if (50 : Int32) < x2 then
      some ((-9 : Int32), g)
    else
      bd2 (f6_slidesOf g) fun r4 g3 =>
      if ((r4 >>> (x1 &&& 31)) &&& (1 : Int32)) = (1 : Int32) then
        some (x2, g3)
      else
        nx (x2 + (1 : Int32)) fun v6 =>
        f6_slides_b6 n x1 v6 g3
def f6_slides (x1 : Int32) (g : Sg) : Option (Int32 × Sg) :=
  bd (f6_wetNow g) fun g8 =>
  f6_slides_b6 1000 x1 (1 : Int32) g8
def f6_cell (x1 : Int32) (x2 : Int32) (g : Sg) : Option (Int32 × Sg) :=
  nx (pu g 0 0 (0 : Int32)) fun g1 =>
  bd2 (f6_isCell x1 g1) fun r4 g3 =>
  if r4 = 0 then
    some ((-1 : Int32), g3)
  else
    bd2 (f6_in x2 (0 : Int32) (3 : Int32) g3) fun r8 g7 =>
    if r8 = 0 then
      some ((-1 : Int32), g7)
    else
      if x2 = 0 then
        ix ((1 : Int32) + x1) 37 <|
        some ((g7.1 21 ((((1 : Int32) + x1)).toNatClampNeg)), g7)
      else
        if x2 = (1 : Int32) then
          ix ((7 : Int32) + x1) 37 <|
          some ((g7.1 21 ((((7 : Int32) + x1)).toNatClampNeg)), g7)
        else
          if x2 = (2 : Int32) then
            bd2 (f6_lyingIn x1 g7) fun r18 g17 =>
            some (r18, g17)
          else
            bd2 (f6_slides x1 g7) fun r15 g14 =>
            some (r15, g14)
def f6_now (x1 : Int32) (g : Sg) : Option (Int32 × Sg) :=
  nx (pu g 0 0 (0 : Int32)) fun g1 =>
  bd2 (f6_in x1 (0 : Int32) (5 : Int32) g1) fun r4 g3 =>
  if r4 = 0 then
    some ((-1 : Int32), g3)
  else
    if x1 = 0 then
      some ((g3.1 21 0), g3)
    else
      if x1 = (5 : Int32) then
        some ((g3.1 0 25), g3)
      else
        bd2 (f6_those (x1 - (1 : Int32)) g3) fun r10 g9 =>
        some (r10, g9)
def f6_notes_b47 : Nat → Int32 → Sg → Option (Sg)
  | 0, _, _ => none
  | n + 1, x1, g =>
    if (37 : Int32) ≤ x1 then
      nx (pu g 0 25 ((g.1 0 25) + (1 : Int32))) fun g2 =>
      some g2
    else
      ix x1 37 <|
      ix (((37 : Int32) * (g.1 0 25)) + x1) 370 <|
      nx (pu g 24 (((((37 : Int32) * (g.1 0 25)) + x1)).toNatClampNeg) (g.1 21 (x1.toNatClampNeg))) fun g5 =>
      nx (x1 + (1 : Int32)) fun v6 =>
      f6_notes_b47 n v6 g5
def f6_notes_b45 (g : Sg) : Option (Sg) :=
  f6_notes_b47 1000 (0 : Int32) g
def f6_notes_b11 : Nat → Int32 → Sg → Option (Sg)
  | 0, _, _ => none
  | n + 1, x1, g =>
    if (333 : Int32) ≤ x1 then
      nx (pu g 0 25 (9 : Int32)) fun g8 =>
      f6_notes_b45 g8
    else
      ix (x1 + (37 : Int32)) 370 <|
      ix x1 370 <|
      nx (pu g 24 (x1.toNatClampNeg) (g.1 24 (((x1 + (37 : Int32))).toNatClampNeg))) fun g11 =>
      nx (x1 + (1 : Int32)) fun v12 =>
      f6_notes_b11 n v12 g11
def f6_notes (g : Sg) : Option (Sg) :=
  if (g.1 0 25) = (10 : Int32) then
    f6_notes_b11 1000 (0 : Int32) g
  else
    f6_notes_b45 g
def f6_cuts_b114 (k45 : Int32 → Int32 → Int32 → Int32 → Sg → Option (Int32 × Sg)) (x1 : Int32) (x2 : Int32) (x3 : Int32) (x4 : Int32) (g : Sg) : Option (Int32 × Sg) :=
  nx (x4 + (1 : Int32)) fun v1 =>
  k45 x1 x2 x3 v1 g
def f6_cuts_b45 : Nat → Int32 → Int32 → Int32 → Int32 → Sg → Option (Int32 × Sg)
  | 0, _, _, _, _, _ => none
  | n + 1, x1, x2, x3, x4, g =>
    if (g.1 9 1) ≤ x4 then
      ix ((1 : Int32) + x1) 37 <|
      ix ((1 : Int32) + x1) 37 <|
      nx (pu g 21 ((((1 : Int32) + x1)).toNatClampNeg) ((g.1 21 ((((1 : Int32) + x1)).toNatClampNeg)) + (1 : Int32))) fun g5 =>
      some (x2, g5)
    else
      if ((x3 >>> (x4 &&& 31)) &&& (1 : Int32)) = (1 : Int32) then
        ix x4 16 <|
        ix ((1 : Int32) + x1) 37 <|
        if (g.1 15 (x4.toNatClampNeg)) = (g.1 21 ((((1 : Int32) + x1)).toNatClampNeg)) then
          bd2 (f6_leftNow x4 g) fun r12 g11 =>
          ix ((21 : Int32) + x4) 37 <|
          nx (pu g11 21 ((((21 : Int32) + x4)).toNatClampNeg) r12) fun g14 =>
          ix ((13 : Int32) + x4) 37 <|
          nx (pu g14 21 ((((13 : Int32) + x4)).toNatClampNeg) (1 : Int32)) fun g16 =>
          nx (x2 + (1 : Int32)) fun v17 =>
          f6_cuts_b114 (f6_cuts_b45 n) x1 v17 x3 x4 g16
        else
          f6_cuts_b114 (f6_cuts_b45 n) x1 x2 x3 x4 g
      else
        f6_cuts_b114 (f6_cuts_b45 n) x1 x2 x3 x4 g
def f6_cuts (x1 : Int32) (g : Sg) : Option (Int32 × Sg) :=
  nx (pu g 0 0 (0 : Int32)) fun g18 =>
  bd2 (f6_isCell x1 g18) fun r21 g20 =>
  if r21 = 0 then
    some ((-1 : Int32), g20)
  else
    ix ((1 : Int32) + x1) 37 <|
    if (g20.1 21 ((((1 : Int32) + x1)).toNatClampNeg)) = (6 : Int32) then
      some ((-2 : Int32), g20)
    else
      bd (f6_notes g20) fun g26 =>
      bd2 (f6_lyingIn x1 g26) fun r29 g28 =>
      f6_cuts_b45 1000 x1 (0 : Int32) r29 (0 : Int32) g28
def f6_drains_b107 (k55 : Int32 → Int32 → Int32 → Sg → Option (Int32 × Sg)) (x1 : Int32) (x2 : Int32) (x3 : Int32) (y0 : Int32) (y1 : Int32) (y2 : Int32) (g : Sg) : Option (Int32 × Sg) :=
  ix y2 37 <|
  nx (pu g 21 (y2.toNatClampNeg) (y1 + y0)) fun g2 =>
  nx (x3 + (1 : Int32)) fun v3 =>
  k55 x1 x2 v3 g2
def f6_drains_b106 (k55 : Int32 → Int32 → Int32 → Sg → Option (Int32 × Sg)) (x1 : Int32) (x2 : Int32) (x3 : Int32) (y0 : Int32) (y1 : Int32) (g : Sg) : Option (Int32 × Sg) :=
  f6_drains_b107 k55 x1 x2 x3 (0 : Int32) y0 y1 g
def f6_drains_b55 : Nat → Int32 → Int32 → Int32 → Sg → Option (Int32 × Sg)
  | 0, _, _, _, _ => none
  | n + 1, x1, x2, x3, g =>
    if (g.1 9 1) ≤ x3 then
      some (x2, g)
    else
      ix ((29 : Int32) + x3) 37 <|
      bd2 (f6_lyingIn x1 g) fun r8 g7 =>
      if ((r8 >>> (x3 &&& 31)) &&& (1 : Int32)) = (1 : Int32) then
        ix ((29 : Int32) + x3) 37 <|
        if (9 : Int32) ≤ (g7.1 21 ((((29 : Int32) + x3)).toNatClampNeg)) then
          f6_drains_b106 (f6_drains_b55 n) x1 x2 x3 (g.1 21 ((((29 : Int32) + x3)).toNatClampNeg)) ((29 : Int32) + x3) g7
        else
          f6_drains_b107 (f6_drains_b55 n) x1 x2 x3 (1 : Int32) (g.1 21 ((((29 : Int32) + x3)).toNatClampNeg)) ((29 : Int32) + x3) g7
      else
        f6_drains_b106 (f6_drains_b55 n) x1 x2 x3 (g.1 21 ((((29 : Int32) + x3)).toNatClampNeg)) ((29 : Int32) + x3) g7
def f6_drains (x1 : Int32) (g : Sg) : Option (Int32 × Sg) :=
  nx (pu g 0 0 (0 : Int32)) fun g12 =>
  bd2 (f6_isCell x1 g12) fun r15 g14 =>
  if r15 = 0 then
    some ((-1 : Int32), g14)
  else
    ix ((7 : Int32) + x1) 37 <|
    if (g14.1 21 ((((7 : Int32) + x1)).toNatClampNeg)) = 0 then
      some ((-2 : Int32), g14)
    else
      bd (f6_notes g14) fun g20 =>
      ix ((7 : Int32) + x1) 37 <|
      nx (g20.1 21 ((((7 : Int32) + x1)).toNatClampNeg)) fun v22 =>
      ix ((7 : Int32) + x1) 37 <|
      nx (pu g20 21 ((((7 : Int32) + x1)).toNatClampNeg) (0 : Int32)) fun g24 =>
      f6_drains_b55 1000 x1 v22 (0 : Int32) g24
def f6_does (x1 : Int32) (g : Sg) : Option (Int32 × Sg) :=
  nx (pu g 0 0 (0 : Int32)) fun g1 =>
  bd2 (f6_isPromise x1 g1) fun r4 g3 =>
  if r4 = 0 then
    some ((-1 : Int32), g3)
  else
    ix ((13 : Int32) + x1) 37 <|
    if (g3.1 21 ((((13 : Int32) + x1)).toNatClampNeg)) = (1 : Int32) then
      ix x1 16 <|
      bd2 (f6_those (2 : Int32) g3) fun r11 g10 =>
      if ((g3.1 20 (x1.toNatClampNeg)) &&& r11) = 0 then
        bd (f6_notes g10) fun g14 =>
        ix ((13 : Int32) + x1) 37 <|
        nx (pu g14 21 ((((13 : Int32) + x1)).toNatClampNeg) (2 : Int32)) fun g16 =>
        bd2 (f6_those (2 : Int32) g16) fun r19 g18 =>
        bd2 (f6_ones r19 g18) fun r22 g21 =>
        some (r22, g21)
      else
        some ((-2 : Int32), g10)
    else
      some ((-2 : Int32), g3)
def f6_year_b147 (k66 : Int32 → Int32 → Int32 → Sg → Option (Int32 × Sg)) (x1 : Int32) (x3 : Int32) (y0 : Int32) (y1 : Int32) (g : Sg) : Option (Int32 × Sg) :=
  nx (y1 + y0) fun v1 =>
  nx (x3 + (1 : Int32)) fun v2 =>
  k66 x1 v1 v2 g
def f6_year_b135 (k66 : Int32 → Int32 → Int32 → Sg → Option (Int32 × Sg)) (x1 : Int32) (x2 : Int32) (x3 : Int32) (x4 : Int32) (y0 : Int32) (y1 : Int32) (g : Sg) : Option (Int32 × Sg) :=
  ix y1 37 <|
  nx (pu g 21 (y1.toNatClampNeg) y0) fun g4 =>
  if x4 = 0 then
    f6_year_b147 k66 x1 x3 (0 : Int32) x2 g4
  else
    f6_year_b147 k66 x1 x3 (1 : Int32) x2 g4
def f6_year_b107 (k66 : Int32 → Int32 → Int32 → Sg → Option (Int32 × Sg)) (x1 : Int32) (x2 : Int32) (x3 : Int32) (y0 : Int32) (g : Sg) : Option (Int32 × Sg) :=
  if y0 = 0 then
    ix ((13 : Int32) + x3) 37 <|
    f6_year_b135 k66 x1 x2 x3 y0 (g.1 21 ((((13 : Int32) + x3)).toNatClampNeg)) ((13 : Int32) + x3) g
  else
    f6_year_b135 k66 x1 x2 x3 y0 (3 : Int32) ((13 : Int32) + x3) g
def f6_year_b106 (k66 : Int32 → Int32 → Int32 → Sg → Option (Int32 × Sg)) (x1 : Int32) (x2 : Int32) (x3 : Int32) (g : Sg) : Option (Int32 × Sg) :=
  f6_year_b107 k66 x1 x2 x3 (0 : Int32) g
def f6_year_b66 : Nat → Int32 → Int32 → Int32 → Sg → Option (Int32 × Sg)
  | 0, _, _, _, _ => none
  | n + 1, x1, x2, x3, g =>
    if (g.1 9 1) ≤ x3 then
      nx (pu g 21 0 ((g.1 21 0) + (1 : Int32))) fun g9 =>
      some (x2, g9)
    else
      ix ((13 : Int32) + x3) 37 <|
      if (g.1 21 ((((13 : Int32) + x3)).toNatClampNeg)) = 0 then
        ix x3 16 <|
        if ((x1 >>> ((g.1 14 (x3.toNatClampNeg)) &&& 31)) &&& (1 : Int32)) = (1 : Int32) then
          f6_year_b107 (f6_year_b66 n) x1 x2 x3 (1 : Int32) g
        else
          f6_year_b106 (f6_year_b66 n) x1 x2 x3 g
      else
        f6_year_b106 (f6_year_b66 n) x1 x2 x3 g
def f6_year_b37 : Nat → Int32 → Int32 → Int32 → Sg → Option (Int32 × Sg)
  | 0, _, _, _, _ => none
  | n + 1, x1, x2, x3, g =>
    if (6 : Int32) ≤ x3 then
      f6_year_b66 1000 x1 x2 (0 : Int32) g
    else
      ix x3 6 <|
      ix ((7 : Int32) + x3) 37 <|
      nx (pu g 21 ((((7 : Int32) + x3)).toNatClampNeg) (g.1 28 (x3.toNatClampNeg))) fun g17 =>
      nx (x3 + (1 : Int32)) fun v18 =>
      f6_year_b37 n x1 x2 v18 g17
def f6_year (g : Sg) : Option (Int32 × Sg) :=
  nx (pu g 0 0 (0 : Int32)) fun g19 =>
  if (g19.1 21 0) = (999 : Int32) then
    some ((-2 : Int32), g19)
  else
    bd (f6_notes g19) fun g22 =>
    bd (f6_wetNow g22) fun g24 =>
    bd2 (f6_slidesOf g24) fun r27 g26 =>
    f6_year_b37 1000 r27 (0 : Int32) (0 : Int32) g26
def f6_undo_b27 : Nat → Int32 → Sg → Option (Int32 × Sg)
  | 0, _, _ => none
  | n + 1, x1, g =>
    if (37 : Int32) ≤ x1 then
      some ((g.1 0 25), g)
    else
      ix (((37 : Int32) * (g.1 0 25)) + x1) 370 <|
      ix x1 37 <|
      nx (pu g 21 (x1.toNatClampNeg) (g.1 24 (((((37 : Int32) * (g.1 0 25)) + x1)).toNatClampNeg))) fun g4 =>
      nx (x1 + (1 : Int32)) fun v5 =>
      f6_undo_b27 n v5 g4
def f6_undo (g : Sg) : Option (Int32 × Sg) :=
  nx (pu g 0 0 (0 : Int32)) fun g6 =>
  if (g6.1 0 25) = 0 then
    some ((-2 : Int32), g6)
  else
    nx (pu g6 0 25 ((g6.1 0 25) - (1 : Int32))) fun g8 =>
    f6_undo_b27 1000 (0 : Int32) g8
def f6_left (x1 : Int32) (x2 : Int32) (g : Sg) : Option (Int32 × Sg) :=
  nx (pu g 0 0 (0 : Int32)) fun g1 =>
  bd2 (f6_isPromise x1 g1) fun r4 g3 =>
  if r4 = 0 then
    some ((-1 : Int32), g3)
  else
    bd2 (f6_in x2 (0 : Int32) (99 : Int32) g3) fun r8 g7 =>
    if r8 = 0 then
      some ((-1 : Int32), g7)
    else
      bd2 (f6_leftIn x1 ((g7.1 21 0) + x2) g7) fun r12 g11 =>
      some (r12, g11)
def f6_lasts_b89 (k42 : Int32 → Int32 → Int32 → Int32 → Int32 → Sg → Option (Int32 × Sg)) (x1 : Int32) (x2 : Int32) (x3 : Int32) (x5 : Int32) (y0 : Int32) (g : Sg) : Option (Int32 × Sg) :=
  nx (x5 + (1 : Int32)) fun v1 =>
  k42 x1 x2 x3 y0 v1 g
def f6_lasts_b78 (k42 : Int32 → Int32 → Int32 → Int32 → Int32 → Sg → Option (Int32 × Sg)) (x1 : Int32) (x2 : Int32) (x3 : Int32) (x4 : Int32) (x5 : Int32) (y0 : Int32) (g : Sg) : Option (Int32 × Sg) :=
  if y0 < x2 then
    f6_lasts_b89 k42 x1 x2 x3 x5 x4 g
  else
    f6_lasts_b89 k42 x1 x2 x3 x5 x5 g
def f6_lasts_b42 : Nat → Int32 → Int32 → Int32 → Int32 → Int32 → Sg → Option (Int32 × Sg)
  | 0, _, _, _, _, _, _ => none
  | n + 1, x1, x2, x3, x4, x5, g =>
    if (6 : Int32) ≤ x5 then
      some (x4, g)
    else
      nz (g.1 9 2) <|
      nx (x1 - ((x3 * (x5 + (1 : Int32))) / (g.1 9 2))) fun v5 =>
      if (1 : Int32) ≤ v5 then
        f6_lasts_b78 (f6_lasts_b42 n) x1 x2 x3 x4 x5 v5 g
      else
        f6_lasts_b78 (f6_lasts_b42 n) x1 x2 x3 x4 x5 (1 : Int32) g
def f6_lasts (x1 : Int32) (x2 : Int32) (x3 : Int32) (g : Sg) : Option (Int32 × Sg) :=
  nx (pu g 0 0 (0 : Int32)) fun g7 =>
  bd2 (f6_in x1 (1 : Int32) (4 : Int32) g7) fun r10 g9 =>
  if r10 = 0 then
    some ((-1 : Int32), g9)
  else
    bd2 (f6_in x2 (1 : Int32) (4 : Int32) g9) fun r14 g13 =>
    if r14 = 0 then
      some ((-1 : Int32), g13)
    else
      bd2 (f6_in x3 (0 : Int32) (99 : Int32) g13) fun r18 g17 =>
      if r18 = 0 then
        some ((-1 : Int32), g17)
      else
        f6_lasts_b42 1000 x1 x2 x3 (-9 : Int32) (0 : Int32) g17
def f6_duty_b32 : Nat → Int32 → Int32 → Sg → Option (Int32 × Sg)
  | 0, _, _, _ => none
  | n + 1, x2, x3, g =>
    if x3 = (-9 : Int32) then
      some (x3, g)
    else
      ix x3 12 <|
      if ((g.1 21 0) + x2) < (g.1 11 (x3.toNatClampNeg)) then
        some (x3, g)
      else
        ix x3 12 <|
        nx (g.1 12 (x3.toNatClampNeg)) fun v5 =>
        f6_duty_b32 n x2 v5 g
def f6_duty (x1 : Int32) (x2 : Int32) (g : Sg) : Option (Int32 × Sg) :=
  nx (pu g 0 0 (0 : Int32)) fun g6 =>
  bd2 (f6_isPromise x1 g6) fun r9 g8 =>
  if r9 = 0 then
    some ((-1 : Int32), g8)
  else
    bd2 (f6_in x2 (0 : Int32) (99 : Int32) g8) fun r13 g12 =>
    if r13 = 0 then
      some ((-1 : Int32), g12)
    else
      ix x1 16 <|
      nx (g12.1 13 (x1.toNatClampNeg)) fun v16 =>
      f6_duty_b32 1000 x2 v16 g12
def f6_sees (x1 : Int32) (g : Sg) : Option (Int32 × Sg) :=
  nx (pu g 0 0 (0 : Int32)) fun g1 =>
  bd2 (f6_in x1 (0 : Int32) (9 : Int32) g1) fun r4 g3 =>
  if r4 = 0 then
    some ((-1 : Int32), g3)
  else
    if (g3.1 0 27) = (4 : Int32) then
      some ((-3 : Int32), g3)
    else
      ix (g3.1 0 27) 4 <|
      nx (pu g3 26 (((g3.1 0 27)).toNatClampNeg) x1) fun g8 =>
      nx (pu g8 0 27 ((g8.1 0 27) + (1 : Int32))) fun g9 =>
      some ((g9.1 0 27), g9)
def f6_forget (g : Sg) : Option (Int32 × Sg) :=
  nx (pu g 0 0 (0 : Int32)) fun g1 =>
  nx (g1.1 0 27) fun v2 =>
  nx (pu g1 0 27 (0 : Int32)) fun g3 =>
  some (v2, g3)
def f6_canBe_b68 (k32 : Int32 → Int32 → Int32 → Sg → Option (Int32 × Sg)) (x1 : Int32) (x3 : Int32) (y0 : Int32) (g : Sg) : Option (Int32 × Sg) :=
  nx (x3 + (1 : Int32)) fun v1 =>
  k32 x1 y0 v1 g
def f6_canBe_b67 (k32 : Int32 → Int32 → Int32 → Sg → Option (Int32 × Sg)) (x1 : Int32) (x3 : Int32) (g : Sg) : Option (Int32 × Sg) :=
  f6_canBe_b68 k32 x1 x3 (0 : Int32) g
def f6_canBe_b32 : Nat → Int32 → Int32 → Int32 → Sg → Option (Int32 × Sg)
  | 0, _, _, _, _ => none
  | n + 1, x1, x2, x3, g =>
    if (g.1 0 27) ≤ x3 then
      rz x2 g
    else
      if x2 = 0 then
        f6_canBe_b67 (f6_canBe_b32 n) x1 x3 g
      else
        ix (((4 : Int32) * x1) + x3) 64 <|
        ix x3 4 <|
        if (g.1 19 (((((4 : Int32) * x1) + x3)).toNatClampNeg)) = (g.1 26 (x3.toNatClampNeg)) then
          f6_canBe_b68 (f6_canBe_b32 n) x1 x3 (1 : Int32) g
        else
          f6_canBe_b67 (f6_canBe_b32 n) x1 x3 g
def f6_canBe_b29 (x1 : Int32) (y0 : Int32) (g : Sg) : Option (Int32 × Sg) :=
  f6_canBe_b32 1000 x1 y0 (0 : Int32) g
def f6_canBe_b28 (x1 : Int32) (g : Sg) : Option (Int32 × Sg) :=
  f6_canBe_b29 x1 (0 : Int32) g
def f6_canBe (x1 : Int32) (g : Sg) : Option (Int32 × Sg) :=
  ix ((13 : Int32) + x1) 37 <|
  if (g.1 21 ((((13 : Int32) + x1)).toNatClampNeg)) = 0 then
    bd2 (f6_leftNow x1 g) fun r11 g10 =>
    if r11 < (g10.1 0 27) then
      f6_canBe_b28 x1 g10
    else
      f6_canBe_b29 x1 (1 : Int32) g10
  else
    f6_canBe_b28 x1 g
def f6_fits_b35 (k9 : Int32 → Int32 → Sg → Option (Int32 × Sg)) (x2 : Int32) (y0 : Int32) (y1 : Int32) (g : Sg) : Option (Int32 × Sg) :=
  nx (y1 ||| y0) fun v1 =>
  nx (x2 + (1 : Int32)) fun v2 =>
  k9 v1 v2 g
def f6_fits_b9 : Nat → Int32 → Int32 → Sg → Option (Int32 × Sg)
  | 0, _, _, _ => none
  | n + 1, x1, x2, g =>
    if (g.1 9 1) ≤ x2 then
      some (x1, g)
    else
      bd2 (f6_canBe x2 g) fun r6 g5 =>
      if r6 = 0 then
        f6_fits_b35 (f6_fits_b9 n) x2 (0 : Int32) x1 g5
      else
        f6_fits_b35 (f6_fits_b9 n) x2 ((1 : Int32) <<< (x2 &&& 31)) x1 g5
def f6_fits (g : Sg) : Option (Int32 × Sg) :=
  nx (pu g 0 0 (0 : Int32)) fun g8 =>
  f6_fits_b9 1000 (0 : Int32) (0 : Int32) g8
def f6_likely_b135 (k93 : Int32 → Int32 → Int32 → Sg → Option (Int32 × Sg)) (x1 : Int32) (x3 : Int32) (y0 : Int32) (g : Sg) : Option (Int32 × Sg) :=
  nx (x3 + (1 : Int32)) fun v1 =>
  k93 x1 y0 v1 g
def f6_likely_b114 (k93 : Int32 → Int32 → Int32 → Sg → Option (Int32 × Sg)) (x2 : Int32) (x3 : Int32) (y0 : Int32) (g : Sg) : Option (Int32 × Sg) :=
  ix x3 10 <|
  if (g.1 29 (x3.toNatClampNeg)) ≤ x2 then
    f6_likely_b135 k93 y0 x3 x2 g
  else
    ix x3 10 <|
    f6_likely_b135 k93 y0 x3 (g.1 29 (x3.toNatClampNeg)) g
def f6_likely_b93 : Nat → Int32 → Int32 → Int32 → Sg → Option (Int32 × Sg)
  | 0, _, _, _, _ => none
  | n + 1, x1, x2, x3, g =>
    if (10 : Int32) ≤ x3 then
      some (x1, g)
    else
      ix x3 10 <|
      if (g.1 29 (x3.toNatClampNeg)) ≤ x2 then
        f6_likely_b114 (f6_likely_b93 n) x2 x3 x1 g
      else
        f6_likely_b114 (f6_likely_b93 n) x2 x3 x3 g
def f6_likely_b80 (k28 : Int32 → Sg → Option (Int32 × Sg)) (x1 : Int32) (g : Sg) : Option (Int32 × Sg) :=
  nx (x1 + (1 : Int32)) fun v8 =>
  k28 v8 g
def f6_likely_b28 : Nat → Int32 → Sg → Option (Int32 × Sg)
  | 0, _, _ => none
  | n + 1, x1, g =>
    if (g.1 9 1) ≤ x1 then
      f6_likely_b93 1000 (-9 : Int32) (0 : Int32) (0 : Int32) g
    else
      bd2 (f6_canBe x1 g) fun r12 g11 =>
      if r12 = 0 then
        f6_likely_b80 (f6_likely_b28 n) x1 g11
      else
        bd2 (f6_leftNow x1 g11) fun r16 g15 =>
        if r16 ≤ (g15.1 0 27) then
          f6_likely_b80 (f6_likely_b28 n) x1 g15
        else
          ix (((4 : Int32) * x1) + (g15.1 0 27)) 64 <|
          ix (g15.1 19 (((((4 : Int32) * x1) + (g15.1 0 27))).toNatClampNeg)) 10 <|
          ix (g15.1 19 (((((4 : Int32) * x1) + (g15.1 0 27))).toNatClampNeg)) 10 <|
          nx (pu g15 29 (((g15.1 19 (((((4 : Int32) * x1) + (g15.1 0 27))).toNatClampNeg))).toNatClampNeg) ((g15.1 29 (((g15.1 19 (((((4 : Int32) * x1) + (g15.1 0 27))).toNatClampNeg))).toNatClampNeg)) + (1 : Int32))) fun g21 =>
          f6_likely_b80 (f6_likely_b28 n) x1 g21
def f6_likely_b7 : Nat → Int32 → Sg → Option (Int32 × Sg)
  | 0, _, _ => none
  | n + 1, x1, g =>
    if (10 : Int32) ≤ x1 then
      f6_likely_b28 1000 (0 : Int32) g
    else
      ix x1 10 <|
      nx (pu g 29 (x1.toNatClampNeg) (0 : Int32)) fun g24 =>
      nx (x1 + (1 : Int32)) fun v25 =>
      f6_likely_b7 n v25 g24
def f6_likely (g : Sg) : Option (Int32 × Sg) :=
  nx (pu g 0 0 (0 : Int32)) fun g26 =>
  f6_likely_b7 1000 (0 : Int32) g26
def f6_wordsOf_b33 (k4 : Int32 → Int32 → Int32 → Sg → Option (Int32 × Sg)) (x1 : Int32) (x3 : Int32) (y0 : Int32) (y1 : Int32) (g : Sg) : Option (Int32 × Sg) :=
  nx (y1 + y0) fun v1 =>
  nx (x3 + (1 : Int32)) fun v2 =>
  k4 x1 v1 v2 g
def f6_wordsOf_b4 : Nat → Int32 → Int32 → Int32 → Sg → Option (Int32 × Sg)
  | 0, _, _, _, _ => none
  | n + 1, x1, x2, x3, g =>
    if (g.1 9 1) ≤ x3 then
      some (x2, g)
    else
      if ((x1 >>> (x3 &&& 31)) &&& (1 : Int32)) = (1 : Int32) then
        bd2 (f6_leftNow x3 g) fun r7 g6 =>
        f6_wordsOf_b33 (f6_wordsOf_b4 n) x1 x3 r7 x2 g6
      else
        f6_wordsOf_b33 (f6_wordsOf_b4 n) x1 x3 (0 : Int32) x2 g
def f6_wordsOf (x1 : Int32) (g : Sg) : Option (Int32 × Sg) :=
  f6_wordsOf_b4 1000 x1 (0 : Int32) (0 : Int32) g
def f6_agree_b48 (k4 : Int32 → Int32 → Int32 → Sg → Option (Int32 × Sg)) (x1 : Int32) (x3 : Int32) (y0 : Int32) (g : Sg) : Option (Int32 × Sg) :=
  nx (x3 + (1 : Int32)) fun v1 =>
  k4 x1 y0 v1 g
def f6_agree_b47 (k4 : Int32 → Int32 → Int32 → Sg → Option (Int32 × Sg)) (x1 : Int32) (x3 : Int32) (g : Sg) : Option (Int32 × Sg) :=
  f6_agree_b48 k4 x1 x3 (0 : Int32) g
def f6_agree_b43 (k4 : Int32 → Int32 → Int32 → Sg → Option (Int32 × Sg)) (x1 : Int32) (x3 : Int32) (g : Sg) : Option (Int32 × Sg) :=
  f6_agree_b48 k4 x1 x3 (1 : Int32) g
def f6_agree_b4 : Nat → Int32 → Int32 → Int32 → Sg → Option (Int32 × Sg)
  | 0, _, _, _, _ => none
  | n + 1, x1, x2, x3, g =>
    if (g.1 9 1) ≤ x3 then
      rz x2 g
    else
      if x2 = 0 then
        f6_agree_b47 (f6_agree_b4 n) x1 x3 g
      else
        if ((x1 >>> (x3 &&& 31)) &&& (1 : Int32)) = 0 then
          f6_agree_b43 (f6_agree_b4 n) x1 x3 g
        else
          ix x3 16 <|
          bd2 (f6_those (2 : Int32) g) fun r8 g7 =>
          if ((g.1 20 (x3.toNatClampNeg)) &&& (x1 ||| r8)) = 0 then
            f6_agree_b43 (f6_agree_b4 n) x1 x3 g7
          else
            f6_agree_b47 (f6_agree_b4 n) x1 x3 g7
def f6_agree (x1 : Int32) (g : Sg) : Option (Int32 × Sg) :=
  f6_agree_b4 1000 x1 (1 : Int32) (0 : Int32) g
def f6_kept_b65 (k20 : Int32 → Int32 → Int32 → Sg → Option (Int32 × Sg)) (x1 : Int32) (x3 : Int32) (y0 : Int32) (g : Sg) : Option (Int32 × Sg) :=
  nx (x3 + (1 : Int32)) fun v1 =>
  k20 x1 y0 v1 g
def f6_kept_b64 (k20 : Int32 → Int32 → Int32 → Sg → Option (Int32 × Sg)) (x1 : Int32) (x2 : Int32) (x3 : Int32) (g : Sg) : Option (Int32 × Sg) :=
  f6_kept_b65 k20 x1 x3 x2 g
def f6_kept_b20 : Nat → Int32 → Int32 → Int32 → Sg → Option (Int32 × Sg)
  | 0, _, _, _, _ => none
  | n + 1, x1, x2, x3, g =>
    if (256 : Int32) ≤ x3 then
      if x1 = 0 then
        some (x2, g)
      else
        bd2 (f6_wordsOf x2 g) fun r6 g5 =>
        some (r6, g5)
    else
      bd2 (f6_those (1 : Int32) g) fun r9 g8 =>
      if (x3 &&& (r9 ^^^ (-1 : Int32))) = 0 then
        bd2 (f6_wordsOf x3 g8) fun r13 g12 =>
        bd2 (f6_wordsOf x2 g12) fun r16 g15 =>
        if r13 ≤ r16 then
          f6_kept_b64 (f6_kept_b20 n) x1 x2 x3 g15
        else
          bd2 (f6_agree x3 g15) fun r20 g19 =>
          if r20 = 0 then
            f6_kept_b64 (f6_kept_b20 n) x1 x2 x3 g19
          else
            f6_kept_b65 (f6_kept_b20 n) x1 x3 x3 g19
      else
        f6_kept_b64 (f6_kept_b20 n) x1 x2 x3 g8
def f6_kept (x1 : Int32) (g : Sg) : Option (Int32 × Sg) :=
  nx (pu g 0 0 (0 : Int32)) fun g22 =>
  bd2 (f6_in x1 (0 : Int32) (1 : Int32) g22) fun r25 g24 =>
  if r25 = 0 then
    some ((-1 : Int32), g24)
  else
    f6_kept_b20 1000 x1 (0 : Int32) (0 : Int32) g24
def f6_soonest_b50 (k5 : Int32 → Int32 → Int32 → Sg → Option (Int32 × Sg)) (x1 : Int32) (x3 : Int32) (y0 : Int32) (g : Sg) : Option (Int32 × Sg) :=
  nx (x3 + (1 : Int32)) fun v1 =>
  k5 x1 y0 v1 g
def f6_soonest_b49 (k5 : Int32 → Int32 → Int32 → Sg → Option (Int32 × Sg)) (x1 : Int32) (x2 : Int32) (x3 : Int32) (g : Sg) : Option (Int32 × Sg) :=
  f6_soonest_b50 k5 x1 x3 x2 g
def f6_soonest_b45 (k5 : Int32 → Int32 → Int32 → Sg → Option (Int32 × Sg)) (x1 : Int32) (x3 : Int32) (g : Sg) : Option (Int32 × Sg) :=
  f6_soonest_b50 k5 x1 x3 x3 g
def f6_soonest_b5 : Nat → Int32 → Int32 → Int32 → Sg → Option (Int32 × Sg)
  | 0, _, _, _, _ => none
  | n + 1, x1, x2, x3, g =>
    if (g.1 9 1) ≤ x3 then
      some (x2, g)
    else
      if ((x1 >>> (x3 &&& 31)) &&& (1 : Int32)) = (1 : Int32) then
        if x2 = (-9 : Int32) then
          f6_soonest_b45 (f6_soonest_b5 n) x1 x3 g
        else
          ix x3 16 <|
          ix x2 16 <|
          if (g.1 17 (x2.toNatClampNeg)) ≤ (g.1 17 (x3.toNatClampNeg)) then
            f6_soonest_b49 (f6_soonest_b5 n) x1 x2 x3 g
          else
            f6_soonest_b45 (f6_soonest_b5 n) x1 x3 g
      else
        f6_soonest_b49 (f6_soonest_b5 n) x1 x2 x3 g
def f6_soonest (x1 : Int32) (g : Sg) : Option (Int32 × Sg) :=
  f6_soonest_b5 1000 x1 (-9 : Int32) (0 : Int32) g
def f6_canOrder_b66 (k12 : Int32 → Int32 → Int32 → Sg → Option (Int32 × Sg)) (x2 : Int32) (x4 : Int32) (y0 : Int32) (g : Sg) : Option (Int32 × Sg) :=
  k12 x2 y0 x4 g
def f6_canOrder_b65 (k12 : Int32 → Int32 → Int32 → Sg → Option (Int32 × Sg)) (x2 : Int32) (x4 : Int32) (g : Sg) : Option (Int32 × Sg) :=
  f6_canOrder_b66 k12 x2 x4 (0 : Int32) g
def f6_canOrder_b12 : Nat → Int32 → Int32 → Int32 → Sg → Option (Int32 × Sg)
  | 0, _, _, _, _ => none
  | n + 1, x2, x3, x4, g =>
    if x4 = 0 then
      rz x3 g
    else
      bd2 (f6_soonest x4 g) fun r4 g3 =>
      nx (x4 &&& (((1 : Int32) <<< (r4 &&& 31)) ^^^ (-1 : Int32))) fun v5 =>
      ix r4 16 <|
      nx (x2 + (g3.1 16 (r4.toNatClampNeg))) fun v7 =>
      if x3 = 0 then
        f6_canOrder_b65 (f6_canOrder_b12 n) v7 v5 g3
      else
        ix r4 16 <|
        if (g3.1 17 (r4.toNatClampNeg)) < v7 then
          f6_canOrder_b65 (f6_canOrder_b12 n) v7 v5 g3
        else
          f6_canOrder_b66 (f6_canOrder_b12 n) v7 v5 (1 : Int32) g3
def f6_canOrder (x1 : Int32) (g : Sg) : Option (Int32 × Sg) :=
  nx (g.1 21 0) fun v11 =>
  f6_canOrder_b12 1000 v11 (1 : Int32) x1 g
def f6_order_b114 (x3 : Int32) (g : Sg) : Option (Int32 × Sg) :=
  bd2 (f6_soonest x3 g) fun r3 g2 =>
  some (r3, g2)
def f6_order_b86 : Nat → Int32 → Int32 → Int32 → Sg → Option (Int32 × Sg)
  | 0, _, _, _, _ => none
  | n + 1, x1, x3, x4, g =>
    if x1 ≤ x4 then
      f6_order_b114 x3 g
    else
      if x3 = 0 then
        f6_order_b114 x3 g
      else
        bd2 (f6_soonest x3 g) fun r8 g7 =>
        nx (x3 &&& (((1 : Int32) <<< (r8 &&& 31)) ^^^ (-1 : Int32))) fun v9 =>
        nx (x4 + (1 : Int32)) fun v10 =>
        f6_order_b86 n x1 v9 v10 g7
def f6_order_b64 (k21 : Int32 → Int32 → Int32 → Sg → Option (Int32 × Sg)) (x1 : Int32) (x3 : Int32) (y0 : Int32) (g : Sg) : Option (Int32 × Sg) :=
  nx (x3 + (1 : Int32)) fun v11 =>
  k21 x1 y0 v11 g
def f6_order_b63 (k21 : Int32 → Int32 → Int32 → Sg → Option (Int32 × Sg)) (x1 : Int32) (x2 : Int32) (x3 : Int32) (g : Sg) : Option (Int32 × Sg) :=
  f6_order_b64 k21 x1 x3 x2 g
def f6_order_b21 : Nat → Int32 → Int32 → Int32 → Sg → Option (Int32 × Sg)
  | 0, _, _, _, _ => none
  | n + 1, x1, x2, x3, g =>
    if (256 : Int32) ≤ x3 then
      if x1 = (-1 : Int32) then
        bd2 (f6_ones x2 g) fun r16 g15 =>
        some (r16, g15)
      else
        f6_order_b86 1000 x1 x2 (0 : Int32) g
    else
      bd2 (f6_those (1 : Int32) g) fun r19 g18 =>
      if (x3 &&& (r19 ^^^ (-1 : Int32))) = 0 then
        bd2 (f6_ones x3 g18) fun r23 g22 =>
        bd2 (f6_ones x2 g22) fun r26 g25 =>
        if r23 ≤ r26 then
          f6_order_b63 (f6_order_b21 n) x1 x2 x3 g25
        else
          bd2 (f6_canOrder x3 g25) fun r30 g29 =>
          if r30 = 0 then
            f6_order_b63 (f6_order_b21 n) x1 x2 x3 g29
          else
            f6_order_b64 (f6_order_b21 n) x1 x3 x3 g29
      else
        f6_order_b63 (f6_order_b21 n) x1 x2 x3 g18
def f6_order (x1 : Int32) (g : Sg) : Option (Int32 × Sg) :=
  nx (pu g 0 0 (0 : Int32)) fun g32 =>
  bd2 (f6_in x1 (-1 : Int32) (7 : Int32) g32) fun r35 g34 =>
  if r35 = 0 then
    some ((-1 : Int32), g34)
  else
    f6_order_b21 1000 x1 (0 : Int32) (0 : Int32) g34
def f6_staysFor_b70 (k48 : Int32 → Int32 → Int32 → Sg → Option (Int32 × Sg)) (x2 : Int32) (x4 : Int32) (y0 : Int32) (g : Sg) : Option (Int32 × Sg) :=
  nx (x4 + (1 : Int32)) fun v1 =>
  k48 x2 y0 v1 g
def f6_staysFor_b48 : Nat → Int32 → Int32 → Int32 → Sg → Option (Int32 × Sg)
  | 0, _, _, _, _ => none
  | n + 1, x2, x3, x4, g =>
    if x2 ≤ x4 then
      rz x3 g
    else
      if x3 = 0 then
        rz x3 g
      else
        bd2 (f6_slidesOf g) fun r6 g5 =>
        if r6 = 0 then
          f6_staysFor_b70 (f6_staysFor_b48 n) x2 x4 (1 : Int32) g5
        else
          f6_staysFor_b70 (f6_staysFor_b48 n) x2 x4 (0 : Int32) g5
def f6_staysFor_b36 (k6 : Int32 → Int32 → Int32 → Sg → Option (Int32 × Sg)) (x1 : Int32) (x2 : Int32) (x3 : Int32) (y0 : Int32) (y1 : Int32) (g : Sg) : Option (Int32 × Sg) :=
  ix y1 6 <|
  nx (pu g 28 (y1.toNatClampNeg) y0) fun g9 =>
  nx (x3 + (1 : Int32)) fun v10 =>
  k6 x1 x2 v10 g9
def f6_staysFor_b6 : Nat → Int32 → Int32 → Int32 → Sg → Option (Int32 × Sg)
  | 0, _, _, _, _ => none
  | n + 1, x1, x2, x3, g =>
    if (6 : Int32) ≤ x3 then
      f6_staysFor_b48 1000 x2 (1 : Int32) (0 : Int32) g
    else
      if ((x1 >>> (x3 &&& 31)) &&& (1 : Int32)) = (1 : Int32) then
        f6_staysFor_b36 (f6_staysFor_b6 n) x1 x2 x3 (0 : Int32) x3 g
      else
        ix x3 6 <|
        f6_staysFor_b36 (f6_staysFor_b6 n) x1 x2 x3 (g.1 28 (x3.toNatClampNeg)) x3 g
def f6_staysFor (x1 : Int32) (x2 : Int32) (g : Sg) : Option (Int32 × Sg) :=
  bd (f6_wetNow g) fun g15 =>
  f6_staysFor_b6 1000 x1 x2 (0 : Int32) g15
def f6_drain_b58 (k23 : Int32 → Int32 → Int32 → Sg → Option (Int32 × Sg)) (x1 : Int32) (x3 : Int32) (y0 : Int32) (g : Sg) : Option (Int32 × Sg) :=
  nx (x3 + (-1 : Int32)) fun v1 =>
  k23 x1 y0 v1 g
def f6_drain_b57 (k23 : Int32 → Int32 → Int32 → Sg → Option (Int32 × Sg)) (x1 : Int32) (x2 : Int32) (x3 : Int32) (g : Sg) : Option (Int32 × Sg) :=
  f6_drain_b58 k23 x1 x3 x2 g
def f6_drain_b44 (k23 : Int32 → Int32 → Int32 → Sg → Option (Int32 × Sg)) (x1 : Int32) (x2 : Int32) (x3 : Int32) (g : Sg) : Option (Int32 × Sg) :=
  bd2 (f6_staysFor x3 x1 g) fun r4 g3 =>
  if r4 = 0 then
    f6_drain_b57 k23 x1 x2 x3 g3
  else
    f6_drain_b58 k23 x1 x3 x3 g3
def f6_drain_b23 : Nat → Int32 → Int32 → Int32 → Sg → Option (Int32 × Sg)
  | 0, _, _, _, _ => none
  | n + 1, x1, x2, x3, g =>
    if x3 < 0 then
      some (x2, g)
    else
      if x2 = (-9 : Int32) then
        f6_drain_b44 (f6_drain_b23 n) x1 x2 x3 g
      else
        bd2 (f6_ones x3 g) fun r10 g9 =>
        bd2 (f6_ones x2 g9) fun r13 g12 =>
        if r13 < r10 then
          f6_drain_b57 (f6_drain_b23 n) x1 x2 x3 g12
        else
          f6_drain_b44 (f6_drain_b23 n) x1 x2 x3 g12
def f6_drain (x1 : Int32) (g : Sg) : Option (Int32 × Sg) :=
  nx (pu g 0 0 (0 : Int32)) fun g15 =>
  bd2 (f6_in x1 (0 : Int32) (20 : Int32) g15) fun r18 g17 =>
  if r18 = 0 then
    some ((-1 : Int32), g17)
  else
    f6_drain_b23 1000 x1 (-9 : Int32) (63 : Int32) g17
def f6_power_b4 : Nat → Int32 → Int32 → Int32 → Int32 → Sg → Option (Int32 × Sg)
  | 0, _, _, _, _, _ => none
  | n + 1, x0, x1, x2, x3, g =>
    if x1 ≤ x3 then
      some (x2, g)
    else
      nx (x2 * x0) fun v2 =>
      nx (x3 + (1 : Int32)) fun v3 =>
      f6_power_b4 n x0 x1 v2 v3 g
def f6_power (x0 : Int32) (x1 : Int32) (g : Sg) : Option (Int32 × Sg) :=
  f6_power_b4 1000 x0 x1 (1 : Int32) (0 : Int32) g
def f6_gcd_b4 : Nat → Int32 → Int32 → Sg → Option (Int32 × Sg)
  | 0, _, _, _ => none
  | n + 1, x2, x3, g =>
    if x3 = 0 then
      some (x2, g)
    else
      nz x3 <|
      nx (x2 - x2 / x3 * x3) fun v3 =>
      f6_gcd_b4 n x3 v3 g
def f6_gcd (x0 : Int32) (x1 : Int32) (g : Sg) : Option (Int32 × Sg) :=
  f6_gcd_b4 1000 x0 x1 g
def f6_odds_b100 (k53 : Int32 → Int32 → Int32 → Int32 → Int32 → Int32 → Sg → Option (Int32 × Sg)) (x1 : Int32) (x2 : Int32) (x3 : Int32) (x4 : Int32) (x6 : Int32) (y0 : Int32) (y1 : Int32) (g : Sg) : Option (Int32 × Sg) :=
  nx (y1 + y0) fun v1 =>
  nx (x6 + (1 : Int32)) fun v2 =>
  k53 x1 x2 x3 x4 v1 v2 g
def f6_odds_b53 : Nat → Int32 → Int32 → Int32 → Int32 → Int32 → Int32 → Sg → Option (Int32 × Sg)
  | 0, _, _, _, _, _, _, _ => none
  | n + 1, x1, x2, x3, x4, x5, x6, g =>
    if ((1 : Int32) <<< (x2 &&& 31)) ≤ x6 then
      bd2 (f6_power (10 : Int32) x2 g) fun r6 g5 =>
      bd2 (f6_gcd x5 r6 g5) fun r9 g8 =>
      if x4 = 0 then
        nz r9 <|
        some ((x5 / r9), g8)
      else
        nz r9 <|
        some ((r6 / r9), g8)
    else
      bd2 (f6_ones x6 g) fun r15 g14 =>
      if r15 < x3 then
        f6_odds_b100 (f6_odds_b53 n) x1 x2 x3 x4 x6 (0 : Int32) x5 g14
      else
        bd2 (f6_ones x6 g14) fun r19 g18 =>
        bd2 (f6_power x1 r19 g18) fun r22 g21 =>
        bd2 (f6_ones x6 g21) fun r25 g24 =>
        bd2 (f6_power ((10 : Int32) - x1) (x2 - r25) g24) fun r28 g27 =>
        f6_odds_b100 (f6_odds_b53 n) x1 x2 x3 x4 x6 (r22 * r28) x5 g27
def f6_odds (x1 : Int32) (x2 : Int32) (x3 : Int32) (x4 : Int32) (g : Sg) : Option (Int32 × Sg) :=
  nx (pu g 0 0 (0 : Int32)) fun g29 =>
  bd2 (f6_in x1 (0 : Int32) (10 : Int32) g29) fun r32 g31 =>
  if r32 = 0 then
    some ((-1 : Int32), g31)
  else
    bd2 (f6_in x2 (0 : Int32) (6 : Int32) g31) fun r36 g35 =>
    if r36 = 0 then
      some ((-1 : Int32), g35)
    else
      bd2 (f6_in x3 (0 : Int32) (6 : Int32) g35) fun r40 g39 =>
      if r40 = 0 then
        some ((-1 : Int32), g39)
      else
        bd2 (f6_in x4 (0 : Int32) (1 : Int32) g39) fun r44 g43 =>
        if r44 = 0 then
          some ((-1 : Int32), g43)
        else
          f6_odds_b53 1000 x1 x2 x3 x4 (0 : Int32) (0 : Int32) g43
def f6_rate_b111 (x1 : Int32) (x2 : Int32) (x3 : Int32) (x4 : Int32) (x5 : Int32) (y0 : Int64) (y1 : Int64) (g : Sg) : Option (Int32 × Sg) :=
  nx (pl g (y1 + y0)) fun g1 =>
  if x1 = 0 then
    some (x3, g1)
  else
    if x1 = (1 : Int32) then
      some (x4, g1)
    else
      if x1 = (2 : Int32) then
        some (x5, g1)
      else
        if x1 = (3 : Int32) then
          some (((2 : Int32) * x4), g1)
        else
          if x1 = (4 : Int32) then
            some ((x5 + x2), g1)
          else
            some ((x3 + (g1.1 21 0)), g1)
def f6_rate (x1 : Int32) (x2 : Int32) (g : Sg) : Option (Int32 × Sg) :=
  nx (pu g 0 0 (0 : Int32)) fun g7 =>
  bd2 (f6_in x1 (0 : Int32) (5 : Int32) g7) fun r10 g9 =>
  if r10 = 0 then
    some ((-1000000 : Int32), g9)
  else
    bd2 (f6_isPromise x2 g9) fun r14 g13 =>
    if r14 = 0 then
      some ((-1000000 : Int32), g13)
    else
      bd2 (f6_leftNow x2 g13) fun r18 g17 =>
      ix x2 16 <|
      nx (r18 + (g17.1 15 (x2.toNatClampNeg))) fun v20 =>
      ix x2 16 <|
      nx (r18 - (g17.1 16 (x2.toNatClampNeg))) fun v22 =>
      if x1 = 0 then
        f6_rate_b111 x1 x2 r18 v20 v22 (1 : Int64) g17.2 g17
      else
        if x1 = (1 : Int32) then
          f6_rate_b111 x1 x2 r18 v20 v22 (11 : Int64) g17.2 g17
        else
          if x1 = (2 : Int32) then
            f6_rate_b111 x1 x2 r18 v20 v22 (101 : Int64) g17.2 g17
          else
            if x1 = (3 : Int32) then
              f6_rate_b111 x1 x2 r18 v20 v22 (1011 : Int64) g17.2 g17
            else
              if x1 = (4 : Int32) then
                f6_rate_b111 x1 x2 r18 v20 v22 (10101 : Int64) g17.2 g17
              else
                f6_rate_b111 x1 x2 r18 v20 v22 (100001 : Int64) g17.2 g17
def f6_keep_b18 : Nat → Int32 → Int32 → Sg → Option (Int32 × Sg)
  | 0, _, _, _ => none
  | n + 1, x1, x2, g =>
    if (37 : Int32) ≤ x2 then
      ix x1 2 <|
      nx (pu g 23 (x1.toNatClampNeg) (1 : Int32)) fun g3 =>
      some ((g3.1 21 0), g3)
    else
      ix x2 37 <|
      ix (((37 : Int32) * x1) + x2) 74 <|
      nx (pu g 22 (((((37 : Int32) * x1) + x2)).toNatClampNeg) (g.1 21 (x2.toNatClampNeg))) fun g6 =>
      nx (x2 + (1 : Int32)) fun v7 =>
      f6_keep_b18 n x1 v7 g6
def f6_keep (x1 : Int32) (g : Sg) : Option (Int32 × Sg) :=
  nx (pu g 0 0 (0 : Int32)) fun g8 =>
  bd2 (f6_in x1 (0 : Int32) (1 : Int32) g8) fun r11 g10 =>
  if r11 = 0 then
    some ((-1 : Int32), g10)
  else
    f6_keep_b18 1000 x1 (0 : Int32) g10
def f6_back_b30 : Nat → Int32 → Int32 → Sg → Option (Int32 × Sg)
  | 0, _, _, _ => none
  | n + 1, x1, x2, g =>
    if (37 : Int32) ≤ x2 then
      nx (pu g 0 25 (0 : Int32)) fun g2 =>
      some ((g2.1 21 0), g2)
    else
      ix (((37 : Int32) * x1) + x2) 74 <|
      ix x2 37 <|
      nx (pu g 21 (x2.toNatClampNeg) (g.1 22 (((((37 : Int32) * x1) + x2)).toNatClampNeg))) fun g5 =>
      nx (x2 + (1 : Int32)) fun v6 =>
      f6_back_b30 n x1 v6 g5
def f6_back (x1 : Int32) (g : Sg) : Option (Int32 × Sg) :=
  nx (pu g 0 0 (0 : Int32)) fun g7 =>
  bd2 (f6_in x1 (0 : Int32) (1 : Int32) g7) fun r10 g9 =>
  if r10 = 0 then
    some ((-1 : Int32), g9)
  else
    ix x1 2 <|
    if (g9.1 23 (x1.toNatClampNeg)) = 0 then
      some ((-2 : Int32), g9)
    else
      f6_back_b30 1000 x1 (0 : Int32) g9
def f6_count (x1 : Int32) (g : Sg) : Option (Int32 × Sg) :=
  nx (pu g 0 0 (0 : Int32)) fun g1 =>
  bd2 (f6_in x1 (0 : Int32) (3 : Int32) g1) fun r4 g3 =>
  if r4 = 0 then
    if x1 = (4 : Int32) then
      some ((g3.1 0 27), g3)
    else
      if x1 = (5 : Int32) then
        some ((g3.1 0 3), g3)
      else
        some ((-1 : Int32), g3)
  else
    ix x1 8 <|
    some ((g3.1 9 (x1.toNatClampNeg)), g3)
def f6_trace (g : Sg) : Option (Int64 × Sg) :=
  nx (pu g 0 0 (0 : Int32)) fun g1 =>
  some (g1.2, g1)
