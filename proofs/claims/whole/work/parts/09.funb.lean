def rmX11_isIn : Room := { frames := 0, cells := 0, slots := 0, locals := 0 }
def fX11_isIn (m0 : Mem) (a0 : Int64) (a2 : Int64) (a4 : Int64) : Option (Int32 × Mem) :=
  if (lg_cmp a0 a2) < (0 : Int32) then
    some ((0 : Int32), m0)
  else
    if (0 : Int32) < (lg_cmp a0 a4) then
      some ((0 : Int32), m0)
    else
      some ((1 : Int32), m0)
def rmX11_refuse : Room := { frames := 0, cells := 0, slots := 0, locals := 0 }
def fX11_refuse (m0 : Mem) (a1 : Int32) : Option (Int32 × Mem) :=
  ck (inb ((-1001 : Int32) - a1) 3) <|
  ck (inb ((-1001 : Int32) - a1) 3) <|
  lt (sto m0 363 (ix ((-1001 : Int32) - a1)) ((m0 363 (ix ((-1001 : Int32) - a1))) + (1 : Int32))) <| fun m1 =>
  some (a1, m1)
def rmX11_isWord : Room := { frames := 0, cells := 0, slots := 0, locals := 0 }
def fX11_isWord (m0 : Mem) (a0 : Int32) : Option (Int32 × Mem) :=
  if a0 < (0 : Int32) then
    some ((0 : Int32), m0)
  else
    if a0 < (4096 : Int32) then
      some ((1 : Int32), m0)
    else
      some ((0 : Int32), m0)
def rmX11_isForm : Room := { frames := 0, cells := 0, slots := 0, locals := 0 }
def fX11_isForm (m0 : Mem) (a1 : Int32) : Option (Int32 × Mem) :=
  if a1 < (0 : Int32) then
    some ((0 : Int32), m0)
  else
    if a1 < (m0 362 8) then
      some ((1 : Int32), m0)
    else
      some ((0 : Int32), m0)
def rmX11_isCell : Room := { frames := 0, cells := 0, slots := 0, locals := 0 }
def fX11_isCell (m0 : Mem) (a0 : Int32) : Option (Int32 × Mem) :=
  if a0 < (0 : Int32) then
    some ((0 : Int32), m0)
  else
    if a0 < (32 : Int32) then
      some ((1 : Int32), m0)
    else
      some ((0 : Int32), m0)
def rmX11_has : Room := { frames := 0, cells := 0, slots := 0, locals := 0 }
def fX11_has (m0 : Mem) (a0 : Int32) (a1 : Int32) : Option (Int32 × Mem) :=
  if ((iushr a0 a1) &&& (1 : Int32)) = (1 : Int32) then
    some ((1 : Int32), m0)
  else
    some ((0 : Int32), m0)
def rmX11_size : Room := { frames := 0, cells := 0, slots := 0, locals := 0 }
def fX11_size_L4_b (k24 : Int32 → Option (Int32 × Mem)) (m1 : Mem) (y2 : Int32) (rec : Int32 → Int32 → Option (Int32 × Mem)) (x3 : Int32) (x4 : Int32) : Option (Int32 × Mem) :=
  if x4 < (32 : Int32) then
    lt (x3 + ((iushr y2 x4) &&& (1 : Int32))) <| fun x7 =>
    rec x7 (x4 + (1 : Int32))
  else
    k24 x3
def fX11_size_L4 (k24 : Int32 → Option (Int32 × Mem)) (m1 : Mem) (y2 : Int32) : Nat → Int32 → Int32 → Option (Int32 × Mem)
  | 0 => fun _ _ => none
  | n + 1 => fun x3 x4 => fX11_size_L4_b k24 m1 y2 (fX11_size_L4 k24 m1 y2 n) x3 x4
def fX11_size (m0 : Mem) (a0 : Int32) : Option (Int32 × Mem) :=
  fX11_size_L4
    (fun (x6 : Int32) =>
      some (x6, m0))
    m0 a0 5000 (0 : Int32) (0 : Int32)
def rmX11_signAt : Room := { frames := 0, cells := 0, slots := 0, locals := 0 }
def fX11_signAt (m0 : Mem) (a1 : Int32) (a2 : Int32) : Option (Int32 × Mem) :=
  ck (inb ((((12 : Int32) * a1) + (11 : Int32)) - a2) 144) <|
  some ((m0 366 (ix ((((12 : Int32) * a1) + (11 : Int32)) - a2))), m0)
def rmX11_maskOf : Room := { frames := 0, cells := 0, slots := 0, locals := 0 }
def fX11_maskOf (m0 : Mem) (a1 : Int32) : Option (Int32 × Mem) :=
  ck (inb a1 12) <|
  some ((m0 369 (ix a1)), m0)
def rmX11_valueOf : Room := { frames := 0, cells := 0, slots := 0, locals := 0 }
def fX11_valueOf (m0 : Mem) (a1 : Int32) : Option (Int32 × Mem) :=
  ck (inb a1 12) <|
  some ((m0 370 (ix a1)), m0)
def rmX11_fixedIn : Room := { frames := 1, cells := 0, slots := 0, locals := 22 }
def fX11_fixedIn_L4_b (k48 : Mem → Int32 → Option (Int32 × Mem)) (y2 : Int32) (rec : Mem → Int32 → Int32 → Option (Int32 × Mem)) (m1 : Mem) (x3 : Int32) (x4 : Int32) : Option (Int32 × Mem) :=
  if x4 < (12 : Int32) then
    cl (fX11_signAt m1 y2 x4) <| fun r10 m9 =>
    lt (fun (m11 : Mem) (v12 : Int32) =>
      lt (x3 ||| v12) <| fun x13 =>
      rec m11 x13 (x4 + (1 : Int32))) <| fun j40 =>
    lt (fun (m14 : Mem) =>
      j40 m14 ((1 : Int32) <<< (x4 &&& 31))) <| fun j33 =>
    if r10 = (48 : Int32) then
      j33 m9
    else
      cl (fX11_signAt m9 y2 x4) <| fun r16 m15 =>
      if r16 = (49 : Int32) then
        j33 m15
      else
        j40 m15 (0 : Int32)
  else
    k48 m1 x3
def fX11_fixedIn_L4 (k48 : Mem → Int32 → Option (Int32 × Mem)) (y2 : Int32) : Nat → Mem → Int32 → Int32 → Option (Int32 × Mem)
  | 0 => fun _ _ _ => none
  | n + 1 => fun m1 x3 x4 => fX11_fixedIn_L4_b k48 y2 (fX11_fixedIn_L4 k48 y2 n) m1 x3 x4
def fX11_fixedIn (m0 : Mem) (a1 : Int32) : Option (Int32 × Mem) :=
  fX11_fixedIn_L4
    (fun (m7 : Mem) (x8 : Int32) =>
      some (x8, m7))
    a1 5000 m0 (0 : Int32) (0 : Int32)
def rmX11_onesIn : Room := { frames := 1, cells := 0, slots := 0, locals := 22 }
def fX11_onesIn_L4_b (k37 : Mem → Int32 → Option (Int32 × Mem)) (y2 : Int32) (rec : Mem → Int32 → Int32 → Option (Int32 × Mem)) (m1 : Mem) (x3 : Int32) (x4 : Int32) : Option (Int32 × Mem) :=
  if x4 < (12 : Int32) then
    cl (fX11_signAt m1 y2 x4) <| fun r10 m9 =>
    lt (fun (v11 : Int32) =>
      lt (x3 ||| v11) <| fun x12 =>
      rec m9 x12 (x4 + (1 : Int32))) <| fun j29 =>
    if r10 = (49 : Int32) then
      j29 ((1 : Int32) <<< (x4 &&& 31))
    else
      j29 (0 : Int32)
  else
    k37 m1 x3
def fX11_onesIn_L4 (k37 : Mem → Int32 → Option (Int32 × Mem)) (y2 : Int32) : Nat → Mem → Int32 → Int32 → Option (Int32 × Mem)
  | 0 => fun _ _ _ => none
  | n + 1 => fun m1 x3 x4 => fX11_onesIn_L4_b k37 y2 (fX11_onesIn_L4 k37 y2 n) m1 x3 x4
def fX11_onesIn (m0 : Mem) (a1 : Int32) : Option (Int32 × Mem) :=
  fX11_onesIn_L4
    (fun (m7 : Mem) (x8 : Int32) =>
      some (x8, m7))
    a1 5000 m0 (0 : Int32) (0 : Int32)
def rmX11_bitsOf : Room := { frames := 1, cells := 0, slots := 0, locals := 22 }
def fX11_bitsOf_L5_b (k44 : Mem → Int32 → Option (Int32 × Mem)) (y2 : Int32) (y3 : Int32) (rec : Mem → Int32 → Int32 → Option (Int32 × Mem)) (m1 : Mem) (x4 : Int32) (x5 : Int32) : Option (Int32 × Mem) :=
  if x5 < (12 : Int32) then
    cl (fX11_signAt m1 y2 x5) <| fun r11 m10 =>
    ck (inb y3 8) <|
    lt (fun (v12 : Int32) =>
      lt (x4 ||| v12) <| fun x13 =>
      rec m10 x13 (x5 + (1 : Int32))) <| fun j36 =>
    if r11 = (sV 3 (ix y3)) then
      j36 ((1 : Int32) <<< (x5 &&& 31))
    else
      j36 (0 : Int32)
  else
    k44 m1 x4
def fX11_bitsOf_L5 (k44 : Mem → Int32 → Option (Int32 × Mem)) (y2 : Int32) (y3 : Int32) : Nat → Mem → Int32 → Int32 → Option (Int32 × Mem)
  | 0 => fun _ _ _ => none
  | n + 1 => fun m1 x4 x5 => fX11_bitsOf_L5_b k44 y2 y3 (fX11_bitsOf_L5 k44 y2 y3 n) m1 x4 x5
def fX11_bitsOf (m0 : Mem) (a1 : Int32) (a2 : Int32) : Option (Int32 × Mem) :=
  fX11_bitsOf_L5
    (fun (m8 : Mem) (x9 : Int32) =>
      some (x9, m8))
    a1 a2 5000 m0 (0 : Int32) (0 : Int32)
def rmX11_isField : Room := { frames := 2, cells := 0, slots := 0, locals := 46 }
def fX11_isField (m0 : Mem) (a1 : Int32) (a2 : Int32) : Option (Int32 × Mem) :=
  cl (fX11_isIn m0 ((a2).toInt64) (0 : Int64) (7 : Int64)) <| fun r2 m1 =>
  if r2 = (0 : Int32) then
    some ((0 : Int32), m1)
  else
    cl (fX11_bitsOf m1 a1 a2) <| fun r4 m3 =>
    if r4 = (0 : Int32) then
      some ((0 : Int32), m3)
    else
      some ((1 : Int32), m3)
def rmX11_letterOf : Room := { frames := 0, cells := 0, slots := 0, locals := 0 }
def fX11_letterOf_L4_b (k31 : Int32 → Option (Int32 × Mem)) (m1 : Mem) (y2 : Int32) (rec : Int32 → Int32 → Option (Int32 × Mem)) (x3 : Int32) (x4 : Int32) : Option (Int32 × Mem) :=
  if x4 < (8 : Int32) then
    ck (inb x4 8) <|
    lt (fun (v7 : Int32) =>
      rec v7 (x4 + (1 : Int32))) <| fun j24 =>
    if (sV 3 (ix x4)) = y2 then
      j24 x4
    else
      j24 x3
  else
    k31 x3
def fX11_letterOf_L4 (k31 : Int32 → Option (Int32 × Mem)) (m1 : Mem) (y2 : Int32) : Nat → Int32 → Int32 → Option (Int32 × Mem)
  | 0 => fun _ _ => none
  | n + 1 => fun x3 x4 => fX11_letterOf_L4_b k31 m1 y2 (fX11_letterOf_L4 k31 m1 y2 n) x3 x4
def fX11_letterOf (m0 : Mem) (a0 : Int32) : Option (Int32 × Mem) :=
  fX11_letterOf_L4
    (fun (x6 : Int32) =>
      some (x6, m0))
    m0 a0 5000 (-1 : Int32) (0 : Int32)
def rmX11_fieldsOf : Room := { frames := 2, cells := 0, slots := 0, locals := 46 }
def fX11_fieldsOf_L4_b (k33 : Mem → Int32 → Option (Int32 × Mem)) (y2 : Int32) (rec : Mem → Int32 → Int32 → Option (Int32 × Mem)) (m1 : Mem) (x3 : Int32) (x4 : Int32) : Option (Int32 × Mem) :=
  if x4 < (8 : Int32) then
    cl (fX11_bitsOf m1 y2 x4) <| fun r10 m9 =>
    lt (fun (v11 : Int32) =>
      lt (x3 + v11) <| fun x12 =>
      rec m9 x12 (x4 + (1 : Int32))) <| fun j25 =>
    if r10 = (0 : Int32) then
      j25 (0 : Int32)
    else
      j25 (1 : Int32)
  else
    k33 m1 x3
def fX11_fieldsOf_L4 (k33 : Mem → Int32 → Option (Int32 × Mem)) (y2 : Int32) : Nat → Mem → Int32 → Int32 → Option (Int32 × Mem)
  | 0 => fun _ _ _ => none
  | n + 1 => fun m1 x3 x4 => fX11_fieldsOf_L4_b k33 y2 (fX11_fieldsOf_L4 k33 y2 n) m1 x3 x4
def fX11_fieldsOf (m0 : Mem) (a1 : Int32) : Option (Int32 × Mem) :=
  fX11_fieldsOf_L4
    (fun (m7 : Mem) (x8 : Int32) =>
      some (x8, m7))
    a1 5000 m0 (0 : Int32) (0 : Int32)
def rmX11_fieldAt : Room := { frames := 1, cells := 0, slots := 0, locals := 22 }
def fX11_fieldAt_L9_b (k46 : Mem → Int32 → Option (Int32 × Mem)) (k65 : Mem → Option (Int32 × Mem)) (y2 : Int32) (y3 : Int32) (rec : Mem → Int32 → Int32 → Int32 → Option (Int32 × Mem)) (m1 : Mem) (x4 : Int32) (x5 : Int32) (x6 : Int32) : Option (Int32 × Mem) :=
  if x6 < (0 : Int32) then
    k65 m1
  else
    cl (fX11_signAt m1 y2 x6) <| fun r14 m13 =>
    cl (fX11_letterOf m13 r14) <| fun r16 m15 =>
    lt (fun (m17 : Mem) (x18 : Int32) (x19 : Int32) =>
      rec m17 x18 x19 (x6 + (-1 : Int32))) <| fun j59 =>
    if r16 < (0 : Int32) then
      j59 m15 x4 x5
    else
      cl (fX11_has m15 x4 r16) <| fun r21 m20 =>
      if r21 = (0 : Int32) then
        if x5 = y3 then
          k46 m20 r16
        else
          lt (x4 ||| ((1 : Int32) <<< (r16 &&& 31))) <| fun x22 =>
          j59 m20 x22 (x5 + (1 : Int32))
      else
        j59 m20 x4 x5
def fX11_fieldAt_L9 (k46 : Mem → Int32 → Option (Int32 × Mem)) (k65 : Mem → Option (Int32 × Mem)) (y2 : Int32) (y3 : Int32) : Nat → Mem → Int32 → Int32 → Int32 → Option (Int32 × Mem)
  | 0 => fun _ _ _ _ => none
  | n + 1 => fun m1 x4 x5 x6 => fX11_fieldAt_L9_b k46 k65 y2 y3 (fX11_fieldAt_L9 k46 k65 y2 y3 n) m1 x4 x5 x6
def fX11_fieldAt (m0 : Mem) (a1 : Int32) (a2 : Int32) : Option (Int32 × Mem) :=
  fX11_fieldAt_L9
    (fun (m9 : Mem) (x10 : Int32) =>
      some (x10, m9))
    (fun (m12 : Mem) =>
      some ((-1 : Int32), m12))
    a1 a2 5000 m0 (0 : Int32) (0 : Int32) (11 : Int32)
def rmX11_stands : Room := { frames := 1, cells := 0, slots := 0, locals := 22 }
def fX11_stands_L10_b (k52 : Mem → Int32 → Int32 → Option (Int32 × Mem)) (y2 : Int32) (y3 : Int32) (y4 : Int32) (rec : Mem → Int32 → Int32 → Int32 → Option (Int32 × Mem)) (m1 : Mem) (x5 : Int32) (x6 : Int32) (x7 : Int32) : Option (Int32 × Mem) :=
  if x7 < (0 : Int32) then
    k52 m1 x5 x6
  else
    cl (fX11_signAt m1 y2 x7) <| fun r15 m14 =>
    ck (inb y3 8) <|
    lt (fun (x16 : Int32) (x17 : Int32) =>
      rec m14 x16 x17 (x7 + (-1 : Int32))) <| fun j46 =>
    if r15 = (sV 3 (ix y3)) then
      lt (((2 : Int32) * x5) + ((y4 >>> (x7 &&& 31)) &&& (1 : Int32))) <| fun x18 =>
      j46 x18 (x6 + (1 : Int32))
    else
      j46 x5 x6
def fX11_stands_L10 (k52 : Mem → Int32 → Int32 → Option (Int32 × Mem)) (y2 : Int32) (y3 : Int32) (y4 : Int32) : Nat → Mem → Int32 → Int32 → Int32 → Option (Int32 × Mem)
  | 0 => fun _ _ _ _ => none
  | n + 1 => fun m1 x5 x6 x7 => fX11_stands_L10_b k52 y2 y3 y4 (fX11_stands_L10 k52 y2 y3 y4 n) m1 x5 x6 x7
def fX11_stands (m0 : Mem) (a1 : Int32) (a2 : Int32) (a3 : Int32) : Option (Int32 × Mem) :=
  fX11_stands_L10
    (fun (m11 : Mem) (x12 : Int32) (x13 : Int32) =>
      if (3 : Int32) < a2 then
        if x12 < ((1 : Int32) <<< ((x13 - (1 : Int32)) &&& 31)) then
          some (x12, m11)
        else
          some ((x12 - ((1 : Int32) <<< (x13 &&& 31))), m11)
      else
        some (x12, m11))
    a1 a2 a3 5000 m0 (0 : Int32) (0 : Int32) (11 : Int32)
def rmX11_canStand : Room := { frames := 2, cells := 0, slots := 0, locals := 46 }
def fX11_canStand (m0 : Mem) (a1 : Int32) (a2 : Int32) (a3 : Int32) : Option (Int32 × Mem) :=
  cl (fX11_bitsOf m0 a1 a2) <| fun r2 m1 =>
  cl (fX11_size m1 r2) <| fun r4 m3 =>
  if (3 : Int32) < a2 then
    cl (fX11_isIn m3 ((a3).toInt64) (((-((1 : Int32) <<< ((r4 - (1 : Int32)) &&& 31)))).toInt64) (((((1 : Int32) <<< ((r4 - (1 : Int32)) &&& 31)) - (1 : Int32))).toInt64)) <| fun r6 m5 =>
    ck (isB r6) (some (r6, m5))
  else
    cl (fX11_isIn m3 ((a3).toInt64) (0 : Int64) (((((1 : Int32) <<< (r4 &&& 31)) - (1 : Int32))).toInt64)) <| fun r8 m7 =>
    ck (isB r8) (some (r8, m7))
def rmX11_laidIn : Room := { frames := 1, cells := 0, slots := 0, locals := 22 }
def fX11_laidIn_L10_b (k73 : Mem → Int32 → Option (Int32 × Mem)) (y2 : Int32) (y3 : Int32) (rec : Mem → Int32 → Int32 → Int32 → Option (Int32 × Mem)) (m1 : Mem) (x4 : Int32) (x5 : Int32) (x6 : Int32) : Option (Int32 × Mem) :=
  if x6 < (12 : Int32) then
    cl (fX11_signAt m1 y2 x6) <| fun r12 m11 =>
    ck (inb y3 8) <|
    lt (fun (x13 : Int32) (x14 : Int32) =>
      rec m11 x13 x14 (x6 + (1 : Int32))) <| fun j67 =>
    if r12 = (sV 3 (ix y3)) then
      lt (fun (v15 : Int32) =>
        lt (x5 >>> ((1 : Int32) &&& 31)) <| fun x16 =>
        j67 v15 x16) <| fun j59 =>
      if (x5 &&& (1 : Int32)) = (1 : Int32) then
        j59 (x4 ||| ((1 : Int32) <<< (x6 &&& 31)))
      else
        j59 (x4 &&& (((1 : Int32) <<< (x6 &&& 31)) ^^^ (-1 : Int32)))
    else
      j67 x4 x5
  else
    k73 m1 x4
def fX11_laidIn_L10 (k73 : Mem → Int32 → Option (Int32 × Mem)) (y2 : Int32) (y3 : Int32) : Nat → Mem → Int32 → Int32 → Int32 → Option (Int32 × Mem)
  | 0 => fun _ _ _ _ => none
  | n + 1 => fun m1 x4 x5 x6 => fX11_laidIn_L10_b k73 y2 y3 (fX11_laidIn_L10 k73 y2 y3 n) m1 x4 x5 x6
def fX11_laidIn (m0 : Mem) (a1 : Int32) (a2 : Int32) (a3 : Int32) (a4 : Int32) : Option (Int32 × Mem) :=
  fX11_laidIn_L10
    (fun (m9 : Mem) (x10 : Int32) =>
      some (x10, m9))
    a1 a2 5000 m0 a3 a4 (0 : Int32)
def rmX11_ruleHolds : Room := { frames := 2, cells := 0, slots := 0, locals := 48 }
def fX11_ruleHolds (m0 : Mem) (a1 : Int32) (a2 : Int32) (a3 : Int32) : Option (Int32 × Mem) :=
  lt (((9 : Int32) * a1) + ((3 : Int32) * a2)) <| fun x1 =>
  ck (inb (x1 + (1 : Int32)) 108) <|
  cl (fX11_stands m0 a1 (m0 368 (ix (x1 + (1 : Int32)))) a3) <| fun r3 m2 =>
  ck (inb x1 108) <|
  if (m2 368 (ix x1)) = (35 : Int32) then
    ck (inb (x1 + (2 : Int32)) 108) <|
    if r3 = (m2 368 (ix (x1 + (2 : Int32)))) then
      some ((0 : Int32), m2)
    else
      some ((1 : Int32), m2)
  else
    ck (inb x1 108) <|
    if (m2 368 (ix x1)) = (47 : Int32) then
      ck (inb (x1 + (2 : Int32)) 108) <|
      ck ((m2 368 (ix (x1 + (2 : Int32)))) != 0) <|
      if (r3 % (m2 368 (ix (x1 + (2 : Int32))))) = (0 : Int32) then
        some ((1 : Int32), m2)
      else
        some ((0 : Int32), m2)
    else
      ck (inb (x1 + (2 : Int32)) 108) <|
      cl (fX11_stands m2 a1 (m2 368 (ix (x1 + (2 : Int32)))) a3) <| fun r5 m4 =>
      if r3 < r5 then
        some ((1 : Int32), m4)
      else
        some ((0 : Int32), m4)
def rmX11_fitsWord : Room := { frames := 3, cells := 0, slots := 0, locals := 73 }
def fX11_fitsWord_L22_b (k60 : Mem → Int32 → Option (Int32 × Mem)) (y6 : Int32) (y7 : Int32) (rec : Mem → Int32 → Int32 → Option (Int32 × Mem)) (m5 : Mem) (x8 : Int32) (x9 : Int32) : Option (Int32 × Mem) :=
  ck (inb y6 12) <|
  if x9 < (m5 367 (ix y6)) then
    lt (fun (m14 : Mem) (v15 : Int32) =>
      rec m14 v15 (x9 + (1 : Int32))) <| fun j53 =>
    lt (fun (m16 : Mem) =>
      j53 m16 (0 : Int32)) <| fun j52 =>
    if x8 = (0 : Int32) then
      j52 m5
    else
      cl (fX11_ruleHolds m5 y6 x9 y7) <| fun r18 m17 =>
      if r18 = (0 : Int32) then
        j52 m17
      else
        j53 m17 (1 : Int32)
  else
    k60 m5 x8
def fX11_fitsWord_L22 (k60 : Mem → Int32 → Option (Int32 × Mem)) (y6 : Int32) (y7 : Int32) : Nat → Mem → Int32 → Int32 → Option (Int32 × Mem)
  | 0 => fun _ _ _ => none
  | n + 1 => fun m5 x8 x9 => fX11_fitsWord_L22_b k60 y6 y7 (fX11_fitsWord_L22 k60 y6 y7 n) m5 x8 x9
def fX11_fitsWord (m0 : Mem) (a1 : Int32) (a2 : Int32) : Option (Int32 × Mem) :=
  cl (fX11_maskOf m0 a1) <| fun r2 m1 =>
  cl (fX11_valueOf m1 a1) <| fun r4 m3 =>
  if (a2 &&& r2) = r4 then
    fX11_fitsWord_L22
      (fun (m12 : Mem) (x13 : Int32) =>
        ck (isB x13) (some (x13, m12)))
      a1 a2 5000 m3 (1 : Int32) (0 : Int32)
  else
    some ((0 : Int32), m3)
def rmX11_isOver : Room := { frames := 1, cells := 0, slots := 0, locals := 21 }
def fX11_isOver (m0 : Mem) (a1 : Int32) (a2 : Int32) : Option (Int32 × Mem) :=
  cl (fX11_maskOf m0 a1) <| fun r2 m1 =>
  cl (fX11_maskOf m1 a2) <| fun r4 m3 =>
  if (r2 &&& r4) = r4 then
    if r2 = r4 then
      some ((0 : Int32), m3)
    else
      cl (fX11_valueOf m3 a1) <| fun r6 m5 =>
      cl (fX11_valueOf m5 a2) <| fun r8 m7 =>
      if (r6 &&& r4) = r8 then
        some ((1 : Int32), m7)
      else
        some ((0 : Int32), m7)
  else
    some ((0 : Int32), m3)
def rmX11_newForms : Room := { frames := 2, cells := 0, slots := 0, locals := 45 }
def fX11_newForms_L7_b (k43 : Mem → Option (Unit × Mem))  (rec : Mem → Int32 → Option (Unit × Mem)) (m2 : Mem) (x3 : Int32) : Option (Unit × Mem) :=
  if x3 < (m2 362 8) then
    cl (fX11_fixedIn m2 x3) <| fun r9 m8 =>
    ck (inb x3 12) <|
    lt (sto m8 369 (ix x3) r9) <| fun m10 =>
    cl (fX11_onesIn m10 x3) <| fun r12 m11 =>
    ck (inb x3 12) <|
    lt (sto m11 370 (ix x3) r12) <| fun m13 =>
    rec m13 (x3 + (1 : Int32))
  else
    k43 m2
def fX11_newForms_L7 (k43 : Mem → Option (Unit × Mem))  : Nat → Mem → Int32 → Option (Unit × Mem)
  | 0 => fun _ _ => none
  | n + 1 => fun m2 x3 => fX11_newForms_L7_b k43  (fX11_newForms_L7 k43  n) m2 x3
def fX11_newForms (m0 : Mem) (a1 : Int32) : Option (Unit × Mem) :=
  lt (sto m0 362 8 a1) <| fun m1 =>
  fX11_newForms_L7
    (fun (m5 : Mem) =>
      lt (sto m5 362 11 (0 : Int32)) <| fun m6 =>
      lt (sto m6 362 18 (0 : Int32)) <| fun m7 =>
      some ((), m7))
    5000 m1 (0 : Int32)
def rmX11_looks : Room := { frames := 4, cells := 1, slots := 12, locals := 97 }
def fX11_looks_L165_b  (k217 : Mem → Option (Unit × Mem)) (y21 : Int32) (y22 : Int32) (rec : Mem → Int32 → Option (Unit × Mem)) (m20 : Mem) (x23 : Int32) : Option (Unit × Mem) :=
  if x23 < (m20 362 8) then
    ck (inb x23 12) <|
    lt ((m20 385 (ix x23)) ||| ((1 : Int32) <<< (x23 &&& 31))) <| fun x26 =>
    cl (fX11_has m20 y22 x23) <| fun r28 m27 =>
    lt (fun (m29 : Mem) =>
      rec m29 (x23 + (1 : Int32))) <| fun j211 =>
    if r28 = (0 : Int32) then
      j211 m27
    else
      if (y22 &&& (x26 ^^^ (-1 : Int32))) = (0 : Int32) then
        ck (inb y21 4096) <|
        lt (sto m27 372 (ix y21) x23) <| fun m30 =>
        j211 m30
      else
        j211 m27
  else
    k217 m20
def fX11_looks_L165  (k217 : Mem → Option (Unit × Mem)) (y21 : Int32) (y22 : Int32) : Nat → Mem → Int32 → Option (Unit × Mem)
  | 0 => fun _ _ => none
  | n + 1 => fun m20 x23 => fX11_looks_L165_b  k217 y21 y22 (fX11_looks_L165  k217 y21 y22 n) m20 x23
def fX11_looks_L99_b  (k137 : Mem → Int32 → Option (Unit × Mem)) (y10 : Int32) (rec : Mem → Int32 → Int32 → Option (Unit × Mem)) (m9 : Mem) (x11 : Int32) (x12 : Int32) : Option (Unit × Mem) :=
  if x12 < (m9 362 8) then
    cl (fX11_fitsWord m9 x12 y10) <| fun r32 m31 =>
    lt (fun (v33 : Int32) =>
      lt (x11 ||| v33) <| fun x34 =>
      rec m31 x34 (x12 + (1 : Int32))) <| fun j128 =>
    if r32 = (0 : Int32) then
      j128 (0 : Int32)
    else
      j128 ((1 : Int32) <<< (x12 &&& 31))
  else
    k137 m9 x11
def fX11_looks_L99  (k137 : Mem → Int32 → Option (Unit × Mem)) (y10 : Int32) : Nat → Mem → Int32 → Int32 → Option (Unit × Mem)
  | 0 => fun _ _ _ => none
  | n + 1 => fun m9 x11 x12 => fX11_looks_L99_b  k137 y10 (fX11_looks_L99  k137 y10 n) m9 x11 x12
def fX11_looks_L86_b  (k223 : Mem → Option (Unit × Mem))  (rec : Mem → Int32 → Option (Unit × Mem)) (m5 : Mem) (x6 : Int32) : Option (Unit × Mem) :=
  if x6 < (4096 : Int32) then
    fX11_looks_L99 
      (fun (m15 : Mem) (x16 : Int32) =>
        ck (inb x6 4096) <|
        lt (sto m15 371 (ix x6) x16) <| fun m17 =>
        lt (fun (v18 : Int32) =>
          ck (inb x6 4096) <|
          lt (sto m17 372 (ix x6) v18) <| fun m19 =>
          fX11_looks_L165 
            (fun (m25 : Mem) =>
              rec m25 (x6 + (1 : Int32)))
            x6 x16 5000 m19 (0 : Int32)) <| fun j161 =>
        if x16 = (0 : Int32) then
          j161 (-1 : Int32)
        else
          j161 (-2 : Int32))
      x6 5000 m5 (0 : Int32) (0 : Int32)
  else
    k223 m5
def fX11_looks_L86  (k223 : Mem → Option (Unit × Mem))  : Nat → Mem → Int32 → Option (Unit × Mem)
  | 0 => fun _ _ => none
  | n + 1 => fun m5 x6 => fX11_looks_L86_b  k223  (fX11_looks_L86  k223  n) m5 x6
def fX11_looks_L33_b  (k78 : Mem → Option (Unit × Mem)) (y36 : Int32) (rec : Mem → Int32 → Option (Unit × Mem)) (m35 : Mem) (x37 : Int32) : Option (Unit × Mem) :=
  if x37 < (m35 362 8) then
    ck (inb y36 12) <|
    lt (fun (m40 : Mem) (v41 : Int32) =>
      ck (inb y36 12) <|
      lt (sto m40 385 (ix y36) ((m35 385 (ix y36)) ||| v41)) <| fun m42 =>
      rec m42 (x37 + (1 : Int32))) <| fun j70 =>
    lt (fun (m43 : Mem) =>
      j70 m43 (0 : Int32)) <| fun j69 =>
    if x37 = y36 then
      j69 m35
    else
      cl (fX11_isOver m35 y36 x37) <| fun r45 m44 =>
      if r45 = (0 : Int32) then
        j69 m44
      else
        j70 m44 ((1 : Int32) <<< (x37 &&& 31))
  else
    k78 m35
def fX11_looks_L33  (k78 : Mem → Option (Unit × Mem)) (y36 : Int32) : Nat → Mem → Int32 → Option (Unit × Mem)
  | 0 => fun _ _ => none
  | n + 1 => fun m35 x37 => fX11_looks_L33_b  k78 y36 (fX11_looks_L33  k78 y36 n) m35 x37
def fX11_looks_L22_b  (k84 : Mem → Option (Unit × Mem))  (rec : Mem → Int32 → Option (Unit × Mem)) (m1 : Mem) (x2 : Int32) : Option (Unit × Mem) :=
  if x2 < (m1 362 8) then
    fX11_looks_L33 
      (fun (m39 : Mem) =>
        rec m39 (x2 + (1 : Int32)))
      x2 5000 m1 (0 : Int32)
  else
    k84 m1
def fX11_looks_L22  (k84 : Mem → Option (Unit × Mem))  : Nat → Mem → Int32 → Option (Unit × Mem)
  | 0 => fun _ _ => none
  | n + 1 => fun m1 x2 => fX11_looks_L22_b  k84  (fX11_looks_L22  k84  n) m1 x2
def fX11_looks_t (m0 : Mem) (a1 : Int32) : Option (Unit × Mem) :=
  fX11_looks_L22 
    (fun (m4 : Mem) =>
      fX11_looks_L86 
        (fun (m8 : Mem) =>
          some ((), m8))
        5000 m4 (0 : Int32))
    5000 m0 (0 : Int32)
def fX11_looks (m0 : Mem) : Option (Unit × Mem) :=
  if (m0 362 11) = (0 : Int32) then
    lt (sto m0 362 11 (1 : Int32)) <| fun m1 =>
    lt (zer m1) <| fun m2 =>
    fX11_looks_t m2 (0 : Int32)
  else
    some ((), m0)
def rmX11_meant : Room := { frames := 5, cells := 1, slots := 12, locals := 122 }
def fX11_meant (m0 : Mem) (a1 : Int32) : Option (Int32 × Mem) :=
  cl (fX11_looks m0) <| fun _ m1 =>
  ck (inb a1 4096) <|
  some ((m1 372 (ix a1)), m1)
def rmX11_feed : Room := { frames := 1, cells := 0, slots := 0, locals := 25 }
def fX11_feed_L43_b (k86 : Mem → Option (Int32 × Mem)) (y8 : Int64) (y9 : Int32) (rec : Mem → Int32 → Option (Int32 × Mem)) (m7 : Mem) (x10 : Int32) : Option (Int32 × Mem) :=
  if x10 < y9 then
    ck (inb (m7 362 13) 200) <|
    lt (sto m7 373 (ix (m7 362 13)) ((((y8 >>> ((((8 : Int32) * x10)).toInt64 &&& 63)) &&& (255 : Int64))).toInt32)) <| fun m13 =>
    lt (sto m13 362 13 ((m13 362 13) + (1 : Int32))) <| fun m14 =>
    rec m14 (x10 + (1 : Int32))
  else
    k86 m7
def fX11_feed_L43 (k86 : Mem → Option (Int32 × Mem)) (y8 : Int64) (y9 : Int32) : Nat → Mem → Int32 → Option (Int32 × Mem)
  | 0 => fun _ _ => none
  | n + 1 => fun m7 x10 => fX11_feed_L43_b k86 y8 y9 (fX11_feed_L43 k86 y8 y9 n) m7 x10
def fX11_feed (m0 : Mem) (a1 : Int64) (a3 : Int32) : Option (Int32 × Mem) :=
  cl (fX11_isIn m0 ((a3).toInt64) (1 : Int64) (8 : Int64)) <| fun r2 m1 =>
  if r2 = (0 : Int32) then
    cl (fX11_refuse m1 (-1001 : Int32)) <| fun r4 m3 =>
    some (r4, m3)
  else
    if (200 : Int32) < ((m1 362 13) + a3) then
      cl (fX11_refuse m1 (-1002 : Int32)) <| fun r6 m5 =>
      some (r6, m5)
    else
      fX11_feed_L43
        (fun (m12 : Mem) =>
          some ((m12 362 13), m12))
        a1 a3 5000 m1 (0 : Int32)
def rmX11_wipe : Room := { frames := 0, cells := 0, slots := 0, locals := 0 }
def fX11_wipe (m0 : Mem) : Option (Int32 × Mem) :=
  lt (m0 362 13) <| fun x1 =>
  lt (sto m0 362 13 (0 : Int32)) <| fun m2 =>
  some (x1, m2)
def rmX11_byteAt : Room := { frames := 0, cells := 0, slots := 0, locals := 0 }
def fX11_byteAt (m0 : Mem) (a1 : Int32) : Option (Int32 × Mem) :=
  if a1 < (m0 362 28) then
    ck (inb a1 200) <|
    some ((m0 373 (ix a1)), m0)
  else
    some ((-1 : Int32), m0)
def rmX11_isLetter : Room := { frames := 0, cells := 0, slots := 0, locals := 0 }
def fX11_isLetter (m0 : Mem) (a0 : Int32) : Option (Int32 × Mem) :=
  if a0 < (97 : Int32) then
    some ((0 : Int32), m0)
  else
    if (122 : Int32) < a0 then
      some ((0 : Int32), m0)
    else
      some ((1 : Int32), m0)
def rmX11_isDigit : Room := { frames := 0, cells := 0, slots := 0, locals := 0 }
def fX11_isDigit (m0 : Mem) (a0 : Int32) : Option (Int32 × Mem) :=
  if a0 < (48 : Int32) then
    some ((0 : Int32), m0)
  else
    if (57 : Int32) < a0 then
      some ((0 : Int32), m0)
    else
      some ((1 : Int32), m0)
def rmX11_wrongAt : Room := { frames := 0, cells := 0, slots := 0, locals := 0 }
def fX11_wrongAt (m0 : Mem) (a1 : Int32) : Option (Unit × Mem) :=
  lt (fun (v1 : Int32) =>
    lt (sto m0 362 30 v1) <| fun m2 =>
    some ((), m2)) <| fun j16 =>
  if (m0 362 30) < (0 : Int32) then
    j16 a1
  else
    j16 (m0 362 30)
def rmX11_isNamed : Room := { frames := 0, cells := 0, slots := 0, locals := 0 }
def fX11_isNamed_L4_b (k90 : Int32 → Option (Int32 × Mem)) (m1 : Mem) (y2 : Int32) (rec : Int32 → Int32 → Option (Int32 × Mem)) (x3 : Int32) (x4 : Int32) : Option (Int32 × Mem) :=
  if x4 < y2 then
    lt (fun (v7 : Int32) =>
      rec v7 (x4 + (1 : Int32))) <| fun j83 =>
    lt (α := Option (Int32 × Mem)) (
      j83 (1 : Int32)) <| fun j78 =>
    if x3 = (0 : Int32) then
      ck (inb ((3 : Int32) * x4) 36) <|
      ck (inb ((3 : Int32) * y2) 36) <|
      lt (α := Option (Int32 × Mem)) (
        j83 (0 : Int32)) <| fun j82 =>
      if (m1 365 (ix ((3 : Int32) * x4))) = (m1 365 (ix ((3 : Int32) * y2))) then
        ck (inb (((3 : Int32) * x4) + (1 : Int32)) 36) <|
        ck (inb (((3 : Int32) * y2) + (1 : Int32)) 36) <|
        if (m1 365 (ix (((3 : Int32) * x4) + (1 : Int32)))) = (m1 365 (ix (((3 : Int32) * y2) + (1 : Int32)))) then
          ck (inb (((3 : Int32) * x4) + (2 : Int32)) 36) <|
          ck (inb (((3 : Int32) * y2) + (2 : Int32)) 36) <|
          if (m1 365 (ix (((3 : Int32) * x4) + (2 : Int32)))) = (m1 365 (ix (((3 : Int32) * y2) + (2 : Int32)))) then
            j78
          else
            j82
        else
          j82
      else
        j82
    else
      j78
  else
    k90 x3
def fX11_isNamed_L4 (k90 : Int32 → Option (Int32 × Mem)) (m1 : Mem) (y2 : Int32) : Nat → Int32 → Int32 → Option (Int32 × Mem)
  | 0 => fun _ _ => none
  | n + 1 => fun x3 x4 => fX11_isNamed_L4_b k90 m1 y2 (fX11_isNamed_L4 k90 m1 y2 n) x3 x4
def fX11_isNamed (m0 : Mem) (a1 : Int32) : Option (Int32 × Mem) :=
  fX11_isNamed_L4
    (fun (x6 : Int32) =>
      ck (isB x6) (some (x6, m0)))
    m0 a1 5000 (0 : Int32) (0 : Int32)
def rmX11_readsName : Room := { frames := 1, cells := 0, slots := 0, locals := 23 }
def fX11_readsName_L26_b (k79 : Mem → Int32 → Option (Unit × Mem)) (y7 : Int32) (rec : Mem → Int32 → Option (Unit × Mem)) (m6 : Mem) (x8 : Int32) : Option (Unit × Mem) :=
  if x8 < (3 : Int32) then
    cl (fX11_byteAt m6 (m6 362 27)) <| fun r21 m20 =>
    cl (fX11_isLetter m20 r21) <| fun r23 m22 =>
    if r23 = (0 : Int32) then
      k79 m22 x8
    else
      cl (fX11_byteAt m22 (m22 362 27)) <| fun r25 m24 =>
      ck (inb (((3 : Int32) * y7) + x8) 36) <|
      lt (sto m24 365 (ix (((3 : Int32) * y7) + x8)) r25) <| fun m26 =>
      lt (sto m26 362 27 ((m26 362 27) + (1 : Int32))) <| fun m27 =>
      rec m27 (x8 + (1 : Int32))
  else
    k79 m6 x8
def fX11_readsName_L26 (k79 : Mem → Int32 → Option (Unit × Mem)) (y7 : Int32) : Nat → Mem → Int32 → Option (Unit × Mem)
  | 0 => fun _ _ => none
  | n + 1 => fun m6 x8 => fX11_readsName_L26_b k79 y7 (fX11_readsName_L26 k79 y7 n) m6 x8
def fX11_readsName_L2_b (k24 : Mem → Option (Unit × Mem)) (y2 : Int32) (rec : Mem → Int32 → Option (Unit × Mem)) (m1 : Mem) (x3 : Int32) : Option (Unit × Mem) :=
  if x3 < (3 : Int32) then
    ck (inb (((3 : Int32) * y2) + x3) 36) <|
    lt (sto m1 365 (ix (((3 : Int32) * y2) + x3)) (0 : Int32)) <| fun m28 =>
    rec m28 (x3 + (1 : Int32))
  else
    k24 m1
def fX11_readsName_L2 (k24 : Mem → Option (Unit × Mem)) (y2 : Int32) : Nat → Mem → Int32 → Option (Unit × Mem)
  | 0 => fun _ _ => none
  | n + 1 => fun m1 x3 => fX11_readsName_L2_b k24 y2 (fX11_readsName_L2 k24 y2 n) m1 x3
def fX11_readsName (m0 : Mem) (a1 : Int32) : Option (Unit × Mem) :=
  fX11_readsName_L2
    (fun (m5 : Mem) =>
      fX11_readsName_L26
        (fun (m11 : Mem) (x12 : Int32) =>
          lt (fun (m13 : Mem) =>
            cl (fX11_wrongAt m13 (m13 362 27)) <| fun _ m14 =>
            some ((), m14)) <| fun j104 =>
          if x12 = (0 : Int32) then
            j104 m11
          else
            cl (fX11_byteAt m11 (m11 362 27)) <| fun r16 m15 =>
            if r16 = (58 : Int32) then
              cl (fX11_isNamed m15 a1) <| fun r18 m17 =>
              if r18 = (0 : Int32) then
                lt (sto m17 362 27 ((m17 362 27) + (1 : Int32))) <| fun m19 =>
                some ((), m19)
              else
                j104 m17
            else
              j104 m15)
        a1 5000 m5 (0 : Int32))
    a1 5000 m0 (0 : Int32)
def rmX11_readsPattern : Room := { frames := 2, cells := 0, slots := 0, locals := 46 }
def fX11_readsPattern_L28_b (k111 : Mem → Option (Unit × Mem)) (k148 : Mem → Option (Unit × Mem)) (y7 : Int32) (rec : Mem → Int32 → Option (Unit × Mem)) (m6 : Mem) (x8 : Int32) : Option (Unit × Mem) :=
  if x8 < (12 : Int32) then
    if (m6 362 30) < (0 : Int32) then
      cl (fX11_byteAt m6 (m6 362 27)) <| fun r15 m14 =>
      cl (fX11_letterOf m14 r15) <| fun r17 m16 =>
      lt (fun (v18 : Int32) =>
        if v18 = (0 : Int32) then
          k111 m16
        else
          lt (fun (m19 : Mem) =>
            ck (inb (((12 : Int32) * y7) + x8) 144) <|
            lt (sto m19 366 (ix (((12 : Int32) * y7) + x8)) r15) <| fun m20 =>
            lt (sto m20 362 27 ((m20 362 27) + (1 : Int32))) <| fun m21 =>
            rec m21 (x8 + (1 : Int32))) <| fun j120 =>
          if r17 < (0 : Int32) then
            j120 m16
          else
            cl (fX11_bitsOf m16 y7 r17) <| fun r23 m22 =>
            cl (fX11_size m22 r23) <| fun r25 m24 =>
            if r25 = (8 : Int32) then
              k111 m24
            else
              j120 m24) <| fun j84 =>
      lt (α := Option (Unit × Mem)) (
        j84 (1 : Int32)) <| fun j79 =>
      if r15 = (48 : Int32) then
        j79
      else
        if r15 = (49 : Int32) then
          j79
        else
          if r15 = (46 : Int32) then
            j79
          else
            if r17 < (0 : Int32) then
              j84 (0 : Int32)
            else
              j79
    else
      k148 m6
  else
    k148 m6
def fX11_readsPattern_L28 (k111 : Mem → Option (Unit × Mem)) (k148 : Mem → Option (Unit × Mem)) (y7 : Int32) : Nat → Mem → Int32 → Option (Unit × Mem)
  | 0 => fun _ _ => none
  | n + 1 => fun m6 x8 => fX11_readsPattern_L28_b k111 k148 y7 (fX11_readsPattern_L28 k111 k148 y7 n) m6 x8
def fX11_readsPattern_L2_b (k26 : Mem → Option (Unit × Mem)) (y2 : Int32) (rec : Mem → Int32 → Option (Unit × Mem)) (m1 : Mem) (x3 : Int32) : Option (Unit × Mem) :=
  if x3 < (12 : Int32) then
    ck (inb (((12 : Int32) * y2) + x3) 144) <|
    lt (sto m1 366 (ix (((12 : Int32) * y2) + x3)) (0 : Int32)) <| fun m26 =>
    rec m26 (x3 + (1 : Int32))
  else
    k26 m1
def fX11_readsPattern_L2 (k26 : Mem → Option (Unit × Mem)) (y2 : Int32) : Nat → Mem → Int32 → Option (Unit × Mem)
  | 0 => fun _ _ => none
  | n + 1 => fun m1 x3 => fX11_readsPattern_L2_b k26 y2 (fX11_readsPattern_L2 k26 y2 n) m1 x3
def fX11_readsPattern (m0 : Mem) (a1 : Int32) : Option (Unit × Mem) :=
  fX11_readsPattern_L2
    (fun (m5 : Mem) =>
      fX11_readsPattern_L28
        (fun (m10 : Mem) =>
          cl (fX11_wrongAt m10 (m10 362 27)) <| fun _ m11 =>
          some ((), m11))
        (fun (m13 : Mem) =>
          some ((), m13))
        a1 5000 m5 (0 : Int32))
    a1 5000 m0 (0 : Int32)
def rmX11_readsRuleLetter : Room := { frames := 2, cells := 0, slots := 0, locals := 46 }
def fX11_readsRuleLetter (m0 : Mem) (a1 : Int32) : Option (Int32 × Mem) :=
  cl (fX11_byteAt m0 (m0 362 27)) <| fun r2 m1 =>
  cl (fX11_letterOf m1 r2) <| fun r4 m3 =>
  lt (fun (m5 : Mem) =>
    cl (fX11_wrongAt m5 (m5 362 27)) <| fun _ m6 =>
    some ((0 : Int32), m6)) <| fun j25 =>
  if r4 < (0 : Int32) then
    j25 m3
  else
    cl (fX11_bitsOf m3 a1 r4) <| fun r8 m7 =>
    if r8 = (0 : Int32) then
      j25 m7
    else
      lt (sto m7 362 27 ((m7 362 27) + (1 : Int32))) <| fun m9 =>
      some (r4, m9)
def rmX11_readsNumber : Room := { frames := 1, cells := 0, slots := 0, locals := 25 }
def fX11_readsNumber_L8_b (k64 : Mem → Int32 → Option (Int32 × Mem)) (y3 : Int32) (y4 : Int32) (y5 : Int32) (rec : Mem → Int32 → Option (Int32 × Mem)) (m2 : Mem) (x6 : Int32) : Option (Int32 × Mem) :=
  if (m2 362 27) < (y5 + (3 : Int32)) then
    cl (fX11_byteAt m2 (m2 362 27)) <| fun r16 m15 =>
    cl (fX11_isDigit m15 r16) <| fun r18 m17 =>
    if r18 = (0 : Int32) then
      k64 m17 x6
    else
      cl (fX11_byteAt m17 (m17 362 27)) <| fun r20 m19 =>
      lt ((((10 : Int32) * x6) + r20) - (48 : Int32)) <| fun x21 =>
      lt (sto m19 362 27 ((m19 362 27) + (1 : Int32))) <| fun m22 =>
      rec m22 x21
  else
    k64 m2 x6
def fX11_readsNumber_L8 (k64 : Mem → Int32 → Option (Int32 × Mem)) (y3 : Int32) (y4 : Int32) (y5 : Int32) : Nat → Mem → Int32 → Option (Int32 × Mem)
  | 0 => fun _ _ => none
  | n + 1 => fun m2 x6 => fX11_readsNumber_L8_b k64 y3 y4 y5 (fX11_readsNumber_L8 k64 y3 y4 y5 n) m2 x6
def fX11_readsNumber (m0 : Mem) (a1 : Int32) (a2 : Int32) : Option (Int32 × Mem) :=
  lt (m0 362 27) <| fun x1 =>
  fX11_readsNumber_L8
    (fun (m9 : Mem) (x10 : Int32) =>
      lt (fun (m11 : Mem) =>
        cl (fX11_wrongAt m11 x1) <| fun _ m12 =>
        some (x10, m12)) <| fun j85 =>
      if (m9 362 27) = x1 then
        j85 m9
      else
        cl (fX11_isIn m9 ((x10).toInt64) ((a1).toInt64) ((a2).toInt64)) <| fun r14 m13 =>
        if r14 = (0 : Int32) then
          j85 m13
        else
          some (x10, m13))
    a1 a2 x1 5000 m0 (0 : Int32)
def rmX11_readsRule : Room := { frames := 3, cells := 0, slots := 0, locals := 68 }
def fX11_readsRule (m0 : Mem) (a1 : Int32) : Option (Unit × Mem) :=
  ck (inb a1 12) <|
  if (m0 367 (ix a1)) = (3 : Int32) then
    cl (fX11_wrongAt m0 (m0 362 27)) <| fun _ m1 =>
    some ((), m1)
  else
    lt (sto m0 362 27 ((m0 362 27) + (1 : Int32))) <| fun m2 =>
    ck (inb a1 12) <|
    lt (((9 : Int32) * a1) + ((3 : Int32) * (m2 367 (ix a1)))) <| fun x3 =>
    cl (fX11_readsRuleLetter m2 a1) <| fun r5 m4 =>
    ck (inb (x3 + (1 : Int32)) 108) <|
    lt (sto m4 368 (ix (x3 + (1 : Int32))) r5) <| fun m6 =>
    cl (fX11_byteAt m6 (m6 362 27)) <| fun r8 m7 =>
    lt (fun (m9 : Mem) =>
      if (m9 362 30) < (0 : Int32) then
        ck (inb x3 108) <|
        lt (sto m9 368 (ix x3) r8) <| fun m10 =>
        lt (sto m10 362 27 ((m10 362 27) + (1 : Int32))) <| fun m11 =>
        lt (fun (m12 : Mem) (v13 : Int32) =>
          ck (inb (x3 + (2 : Int32)) 108) <|
          lt (sto m12 368 (ix (x3 + (2 : Int32))) v13) <| fun m14 =>
          ck (inb a1 12) <|
          ck (inb a1 12) <|
          lt (sto m14 367 (ix a1) ((m14 367 (ix a1)) + (1 : Int32))) <| fun m15 =>
          some ((), m15)) <| fun j168 =>
        if r8 = (60 : Int32) then
          cl (fX11_readsRuleLetter m11 a1) <| fun r17 m16 =>
          j168 m16 r17
        else
          if r8 = (35 : Int32) then
            cl (fX11_readsNumber m11 (0 : Int32) (255 : Int32)) <| fun r19 m18 =>
            j168 m18 r19
          else
            cl (fX11_readsNumber m11 (2 : Int32) (9 : Int32)) <| fun r21 m20 =>
            j168 m20 r21
      else
        some ((), m9)) <| fun j98 =>
    if (m7 362 30) < (0 : Int32) then
      if r8 = (35 : Int32) then
        j98 m7
      else
        if r8 = (47 : Int32) then
          j98 m7
        else
          if r8 = (60 : Int32) then
            j98 m7
          else
            cl (fX11_wrongAt m7 (m7 362 27)) <| fun _ m22 =>
            j98 m22
    else
      j98 m7
def rmX11_readsForm : Room := { frames := 4, cells := 0, slots := 0, locals := 91 }
def fX11_readsForm_L106_b (k134 : Mem → Option (Unit × Mem)) (y16 : Int32) (rec : Mem → Option (Unit × Mem)) (m15 : Mem) : Option (Unit × Mem) :=
  if (m15 362 30) < (0 : Int32) then
    cl (fX11_byteAt m15 (m15 362 27)) <| fun r21 m20 =>
    if r21 = (44 : Int32) then
      cl (fX11_readsRule m20 y16) <| fun _ m22 =>
      rec m22
    else
      k134 m20
  else
    k134 m15
def fX11_readsForm_L106 (k134 : Mem → Option (Unit × Mem)) (y16 : Int32) : Nat → Mem → Option (Unit × Mem)
  | 0 => fun _ => none
  | n + 1 => fun m15 => fX11_readsForm_L106_b k134 y16 (fX11_readsForm_L106 k134 y16 n) m15
def fX11_readsForm_L4_b (k38 : Mem → Int32 → Option (Unit × Mem))  (rec : Mem → Int32 → Int32 → Option (Unit × Mem)) (m1 : Mem) (x2 : Int32) (x3 : Int32) : Option (Unit × Mem) :=
  if x3 < (7 : Int32) then
    ck (inb x3 7) <|
    cl (fX11_byteAt m1 (m1 362 27)) <| fun r25 m24 =>
    lt (fun (v26 : Int32) =>
      rec m24 v26 (x3 + (1 : Int32))) <| fun j31 =>
    if (sV 4 (ix x3)) = r25 then
      j31 x3
    else
      j31 x2
  else
    k38 m1 x2
def fX11_readsForm_L4 (k38 : Mem → Int32 → Option (Unit × Mem))  : Nat → Mem → Int32 → Int32 → Option (Unit × Mem)
  | 0 => fun _ _ _ => none
  | n + 1 => fun m1 x2 x3 => fX11_readsForm_L4_b k38  (fX11_readsForm_L4 k38  n) m1 x2 x3
def fX11_readsForm (m0 : Mem) : Option (Unit × Mem) :=
  fX11_readsForm_L4
    (fun (m6 : Mem) (x7 : Int32) =>
      lt (α := Option (Unit × Mem)) (
        cl (fX11_wrongAt m6 (m6 362 27)) <| fun _ m8 =>
        some ((), m8)) <| fun j51 =>
      if x7 < (0 : Int32) then
        j51
      else
        if (m6 362 29) = (12 : Int32) then
          j51
        else
          lt (m6 362 29) <| fun x9 =>
          ck (inb x9 12) <|
          lt (sto m6 364 (ix x9) x7) <| fun m10 =>
          ck (inb x9 12) <|
          lt (sto m10 367 (ix x9) (0 : Int32)) <| fun m11 =>
          lt (sto m11 362 27 ((m11 362 27) + (1 : Int32))) <| fun m12 =>
          cl (fX11_readsName m12 x9) <| fun _ m13 =>
          lt (fun (m14 : Mem) =>
            fX11_readsForm_L106
              (fun (m18 : Mem) =>
                lt (sto m18 362 29 ((m18 362 29) + (1 : Int32))) <| fun m19 =>
                some ((), m19))
              x9 5000 m14) <| fun j106 =>
          if (m13 362 30) < (0 : Int32) then
            cl (fX11_readsPattern m13 x9) <| fun _ m23 =>
            j106 m23
          else
            j106 m13)
    5000 m0 (-1 : Int32) (0 : Int32)
def rmX11_text : Room := { frames := 5, cells := 0, slots := 0, locals := 113 }
def fX11_text_L33_b (k88 : Mem → Option (Int32 × Mem))  (rec : Mem → Int32 → Option (Int32 × Mem)) (m6 : Mem) (x7 : Int32) : Option (Int32 × Mem) :=
  if x7 = (0 : Int32) then
    k88 m6
  else
    cl (fX11_readsForm m6) <| fun _ m13 =>
    lt (fun (m14 : Mem) (v15 : Int32) =>
      lt (fun (v16 : Int32) =>
        lt (sto m14 362 27 ((m14 362 27) + v16)) <| fun m17 =>
        rec m17 v15) <| fun j81 =>
      if v15 = (0 : Int32) then
        j81 (0 : Int32)
      else
        j81 (1 : Int32)) <| fun j66 =>
    lt (fun (m18 : Mem) =>
      j66 m18 (0 : Int32)) <| fun j65 =>
    if (m13 362 30) < (0 : Int32) then
      cl (fX11_byteAt m13 (m13 362 27)) <| fun r20 m19 =>
      if r20 = (59 : Int32) then
        j66 m19 (1 : Int32)
      else
        j65 m19
    else
      j65 m13
def fX11_text_L33 (k88 : Mem → Option (Int32 × Mem))  : Nat → Mem → Int32 → Option (Int32 × Mem)
  | 0 => fun _ _ => none
  | n + 1 => fun m6 x7 => fX11_text_L33_b k88  (fX11_text_L33 k88  n) m6 x7
def fX11_text (m0 : Mem) : Option (Int32 × Mem) :=
  lt (sto m0 362 28 (m0 362 13)) <| fun m1 =>
  lt (sto m1 362 13 (0 : Int32)) <| fun m2 =>
  lt (sto m2 362 27 (0 : Int32)) <| fun m3 =>
  lt (sto m3 362 30 (-1 : Int32)) <| fun m4 =>
  lt (sto m4 362 29 (m4 362 8)) <| fun m5 =>
  fX11_text_L33
    (fun (m9 : Mem) =>
      lt (fun (m10 : Mem) =>
        if (m10 362 30) < (0 : Int32) then
          cl (fX11_newForms m10 (m10 362 29)) <| fun _ m11 =>
          some ((m11 362 8), m11)
        else
          some (((-10 : Int32) - (m10 362 30)), m10)) <| fun j114 =>
      if (m9 362 30) < (0 : Int32) then
        if (m9 362 27) < (m9 362 28) then
          cl (fX11_wrongAt m9 (m9 362 27)) <| fun _ m12 =>
          j114 m12
        else
          j114 m9
      else
        j114 m9)
    5000 m5 (1 : Int32)
def rmX11_nameMany : Room := { frames := 0, cells := 0, slots := 0, locals := 0 }
def fX11_nameMany (m0 : Mem) (a1 : Int32) : Option (Int32 × Mem) :=
  ck (inb (((3 : Int32) * a1) + (2 : Int32)) 36) <|
  if (m0 365 (ix (((3 : Int32) * a1) + (2 : Int32)))) = (0 : Int32) then
    ck (inb (((3 : Int32) * a1) + (1 : Int32)) 36) <|
    if (m0 365 (ix (((3 : Int32) * a1) + (1 : Int32)))) = (0 : Int32) then
      some ((1 : Int32), m0)
    else
      some ((2 : Int32), m0)
  else
    some ((3 : Int32), m0)
def rmX11_formOf : Room := { frames := 3, cells := 0, slots := 0, locals := 69 }
def fX11_formOf (m0 : Mem) (a1 : Int32) (a2 : Int32) : Option (Int32 × Mem) :=
  cl (fX11_isForm m0 a1) <| fun r2 m1 =>
  lt (fun (m3 : Mem) =>
    cl (fX11_refuse m3 (-1001 : Int32)) <| fun r5 m4 =>
    some (r5, m4)) <| fun j20 =>
  if r2 = (0 : Int32) then
    j20 m1
  else
    cl (fX11_isIn m1 ((a2).toInt64) (0 : Int64) (5 : Int64)) <| fun r7 m6 =>
    if r7 = (0 : Int32) then
      j20 m6
    else
      if a2 = (0 : Int32) then
        ck (inb a1 12) <|
        some ((m6 364 (ix a1)), m6)
      else
      if a2 = (1 : Int32) then
        cl (fX11_maskOf m6 a1) <| fun r11 m10 =>
        some (r11, m10)
      else
      if a2 = (2 : Int32) then
        cl (fX11_valueOf m6 a1) <| fun r14 m13 =>
        some (r14, m13)
      else
      if a2 = (3 : Int32) then
        cl (fX11_fieldsOf m6 a1) <| fun r17 m16 =>
        some (r17, m16)
      else
      if a2 = (4 : Int32) then
        ck (inb a1 12) <|
        some ((m6 367 (ix a1)), m6)
      else
        cl (fX11_nameMany m6 a1) <| fun r20 m19 =>
        some (r20, m19)
def rmX11_formNamed : Room := { frames := 0, cells := 0, slots := 0, locals := 0 }
def fX11_formNamed_L6_b (k73 : Int32 → Option (Int32 × Mem)) (m1 : Mem) (y2 : Int32) (y3 : Int32) (y4 : Int32) (rec : Int32 → Int32 → Option (Int32 × Mem)) (x5 : Int32) (x6 : Int32) : Option (Int32 × Mem) :=
  if x6 < (m1 362 8) then
    ck (inb ((3 : Int32) * x6) 36) <|
    lt (fun (v9 : Int32) =>
      rec v9 (x6 + (1 : Int32))) <| fun j65 =>
    lt (α := Option (Int32 × Mem)) (
      j65 x5) <| fun j63 =>
    if (m1 365 (ix ((3 : Int32) * x6))) = y2 then
      ck (inb (((3 : Int32) * x6) + (1 : Int32)) 36) <|
      if (m1 365 (ix (((3 : Int32) * x6) + (1 : Int32)))) = y3 then
        ck (inb (((3 : Int32) * x6) + (2 : Int32)) 36) <|
        if (m1 365 (ix (((3 : Int32) * x6) + (2 : Int32)))) = y4 then
          j65 x6
        else
          j63
      else
        j63
    else
      j63
  else
    k73 x5
def fX11_formNamed_L6 (k73 : Int32 → Option (Int32 × Mem)) (m1 : Mem) (y2 : Int32) (y3 : Int32) (y4 : Int32) : Nat → Int32 → Int32 → Option (Int32 × Mem)
  | 0 => fun _ _ => none
  | n + 1 => fun x5 x6 => fX11_formNamed_L6_b k73 m1 y2 y3 y4 (fX11_formNamed_L6 k73 m1 y2 y3 y4 n) x5 x6
def fX11_formNamed (m0 : Mem) (a1 : Int32) (a2 : Int32) (a3 : Int32) : Option (Int32 × Mem) :=
  fX11_formNamed_L6
    (fun (x8 : Int32) =>
      some (x8, m0))
    m0 a1 a2 a3 5000 (-1 : Int32) (0 : Int32)
def rmX11_named : Room := { frames := 1, cells := 0, slots := 0, locals := 25 }
def fX11_named (m0 : Mem) (a1 : Int32) (a2 : Int32) (a3 : Int32) : Option (Int32 × Mem) :=
  cl (fX11_isIn m0 ((a1).toInt64) (0 : Int64) (25 : Int64)) <| fun r2 m1 =>
  lt (fun (m3 : Mem) =>
    cl (fX11_refuse m3 (-1001 : Int32)) <| fun r5 m4 =>
    some (r5, m4)) <| fun j48 =>
  if r2 = (0 : Int32) then
    j48 m1
  else
    cl (fX11_isIn m1 ((a2).toInt64) (-1 : Int64) (25 : Int64)) <| fun r7 m6 =>
    if r7 = (0 : Int32) then
      j48 m6
    else
      cl (fX11_isIn m6 ((a3).toInt64) (-1 : Int64) (25 : Int64)) <| fun r9 m8 =>
      if r9 = (0 : Int32) then
        j48 m8
      else
        lt (α := Option (Int32 × Mem)) (
          lt (fun (v10 : Int32) =>
            lt (fun (v11 : Int32) =>
              cl (fX11_formNamed m8 ((97 : Int32) + a1) v10 v11) <| fun r13 m12 =>
              some (r13, m12)) <| fun j85 =>
            if a3 < (0 : Int32) then
              j85 (0 : Int32)
            else
              j85 ((97 : Int32) + a3)) <| fun j73 =>
          if a2 < (0 : Int32) then
            j73 (0 : Int32)
          else
            j73 ((97 : Int32) + a2)) <| fun j56 =>
        if a2 < (0 : Int32) then
          if a3 < (0 : Int32) then
            j56
          else
            j48 m8
        else
          j56
def rmX11_ofKind : Room := { frames := 1, cells := 0, slots := 0, locals := 25 }
def fX11_ofKind_L40_b (k63 : Int32 → Option (Int32 × Mem)) (m12 : Mem) (y13 : Int32) (y14 : Int32) (y15 : Int32) (rec : Int32 → Option (Int32 × Mem)) (x16 : Int32) : Option (Int32 × Mem) :=
  if x16 = (-1 : Int32) then
    k63 x16
  else
    if x16 = y13 then
      k63 x16
    else
      ck (inb x16 7) <|
      lt (sV 5 (ix x16)) <| fun x21 =>
      rec x21
def fX11_ofKind_L40 (k63 : Int32 → Option (Int32 × Mem)) (m12 : Mem) (y13 : Int32) (y14 : Int32) (y15 : Int32) : Nat → Int32 → Option (Int32 × Mem)
  | 0 => fun _ => none
  | n + 1 => fun x16 => fX11_ofKind_L40_b k63 m12 y13 y14 y15 (fX11_ofKind_L40 k63 m12 y13 y14 y15 n) x16
def fX11_ofKind_L24_b (k85 : Int32 → Option (Int32 × Mem)) (m5 : Mem) (y6 : Int32) (rec : Int32 → Int32 → Option (Int32 × Mem)) (x7 : Int32) (x8 : Int32) : Option (Int32 × Mem) :=
  if x8 < (m5 362 8) then
    ck (inb x8 12) <|
    lt (m5 364 (ix x8)) <| fun x11 =>
    fX11_ofKind_L40
      (fun (x18 : Int32) =>
        lt (fun (v19 : Int32) =>
          lt (x7 ||| v19) <| fun x20 =>
          rec x20 (x8 + (1 : Int32))) <| fun j77 =>
        if x18 = y6 then
          j77 ((1 : Int32) <<< (x8 &&& 31))
        else
          j77 (0 : Int32))
      m5 y6 x7 x8 5000 x11
  else
    k85 x7
def fX11_ofKind_L24 (k85 : Int32 → Option (Int32 × Mem)) (m5 : Mem) (y6 : Int32) : Nat → Int32 → Int32 → Option (Int32 × Mem)
  | 0 => fun _ _ => none
  | n + 1 => fun x7 x8 => fX11_ofKind_L24_b k85 m5 y6 (fX11_ofKind_L24 k85 m5 y6 n) x7 x8
def fX11_ofKind (m0 : Mem) (a1 : Int32) : Option (Int32 × Mem) :=
  cl (fX11_isIn m0 ((a1).toInt64) (0 : Int64) (6 : Int64)) <| fun r2 m1 =>
  if r2 = (0 : Int32) then
    cl (fX11_refuse m1 (-1001 : Int32)) <| fun r4 m3 =>
    some (r4, m3)
  else
    fX11_ofKind_L24
      (fun (x10 : Int32) =>
        some (x10, m1))
      m1 a1 5000 (0 : Int32) (0 : Int32)
def rmX11_means : Room := { frames := 6, cells := 1, slots := 12, locals := 143 }
def fX11_means (m0 : Mem) (a1 : Int32) : Option (Int32 × Mem) :=
  cl (fX11_isWord m0 a1) <| fun r2 m1 =>
  if r2 = (0 : Int32) then
    cl (fX11_refuse m1 (-1001 : Int32)) <| fun r4 m3 =>
    some (r4, m3)
  else
    cl (fX11_meant m1 a1) <| fun r6 m5 =>
    some (r6, m5)
def rmX11_fits : Room := { frames := 5, cells := 1, slots := 12, locals := 122 }
def fX11_fits (m0 : Mem) (a1 : Int32) : Option (Int32 × Mem) :=
  cl (fX11_isWord m0 a1) <| fun r2 m1 =>
  if r2 = (0 : Int32) then
    cl (fX11_refuse m1 (-1001 : Int32)) <| fun r4 m3 =>
    some (r4, m3)
  else
    cl (fX11_looks m1) <| fun _ m5 =>
    ck (inb a1 4096) <|
    some ((m5 371 (ix a1)), m5)
def rmX11_over : Room := { frames := 2, cells := 0, slots := 0, locals := 45 }
def fX11_over (m0 : Mem) (a1 : Int32) (a2 : Int32) : Option (Int32 × Mem) :=
  cl (fX11_isForm m0 a1) <| fun r2 m1 =>
  lt (fun (m3 : Mem) =>
    cl (fX11_refuse m3 (-1001 : Int32)) <| fun r5 m4 =>
    some (r5, m4)) <| fun j21 =>
  if r2 = (0 : Int32) then
    j21 m1
  else
    cl (fX11_isForm m1 a2) <| fun r7 m6 =>
    if r7 = (0 : Int32) then
      j21 m6
    else
      if a1 = a2 then
        j21 m6
      else
        cl (fX11_isOver m6 a1 a2) <| fun r9 m8 =>
        if r9 = (0 : Int32) then
          some ((0 : Int32), m8)
        else
          some ((1 : Int32), m8)
def rmX11_asked : Room := { frames := 1, cells := 0, slots := 0, locals := 21 }
def fX11_asked (m0 : Mem) (a1 : Int32) : Option (Int32 × Mem) :=
  cl (fX11_isForm m0 a1) <| fun r2 m1 =>
  if r2 = (0 : Int32) then
    if a1 = (12 : Int32) then
      some ((-1 : Int32), m1)
    else
      if a1 = (13 : Int32) then
        some ((-2 : Int32), m1)
      else
        some ((-9 : Int32), m1)
  else
    some (a1, m1)
def rmX11_many : Room := { frames := 5, cells := 1, slots := 12, locals := 122 }
def fX11_many_L26_b (k61 : Mem → Int32 → Option (Int32 × Mem)) (y7 : Int32) (rec : Mem → Int32 → Int32 → Option (Int32 × Mem)) (m6 : Mem) (x8 : Int32) (x9 : Int32) : Option (Int32 × Mem) :=
  if x9 < (4096 : Int32) then
    ck (inb x9 4096) <|
    cl (fX11_asked m6 y7) <| fun r15 m14 =>
    lt (fun (v16 : Int32) =>
      lt (x8 + v16) <| fun x17 =>
      rec m14 x17 (x9 + (1 : Int32))) <| fun j53 =>
    if (m6 372 (ix x9)) = r15 then
      j53 (1 : Int32)
    else
      j53 (0 : Int32)
  else
    k61 m6 x8
def fX11_many_L26 (k61 : Mem → Int32 → Option (Int32 × Mem)) (y7 : Int32) : Nat → Mem → Int32 → Int32 → Option (Int32 × Mem)
  | 0 => fun _ _ _ => none
  | n + 1 => fun m6 x8 x9 => fX11_many_L26_b k61 y7 (fX11_many_L26 k61 y7 n) m6 x8 x9
def fX11_many (m0 : Mem) (a1 : Int32) : Option (Int32 × Mem) :=
  cl (fX11_asked m0 a1) <| fun r2 m1 =>
  if r2 = (-9 : Int32) then
    cl (fX11_refuse m1 (-1001 : Int32)) <| fun r4 m3 =>
    some (r4, m3)
  else
    cl (fX11_looks m1) <| fun _ m5 =>
    fX11_many_L26
      (fun (m12 : Mem) (x13 : Int32) =>
        some (x13, m12))
      a1 5000 m5 (0 : Int32) (0 : Int32)
def rmX11_covers : Room := { frames := 5, cells := 1, slots := 12, locals := 122 }
def fX11_covers_L31_b (k71 : Int64 → Option (Int64 × Mem)) (m6 : Mem) (y7 : Int32) (y8 : Int32) (rec : Int64 → Int32 → Option (Int64 × Mem)) (x9 : Int64) (x10 : Int32) : Option (Int64 × Mem) :=
  if x10 < (64 : Int32) then
    ck (inb (((64 : Int32) * y8) + x10) 4096) <|
    lt (fun (v13 : Int64) =>
      lt (x9 ||| v13) <| fun x14 =>
      rec x14 (x10 + (1 : Int32))) <| fun j63 =>
    if (m6 372 (ix (((64 : Int32) * y8) + x10))) = y7 then
      j63 ((1 : Int64) <<< ((x10).toInt64 &&& 63))
    else
      j63 (0 : Int64)
  else
    k71 x9
def fX11_covers_L31 (k71 : Int64 → Option (Int64 × Mem)) (m6 : Mem) (y7 : Int32) (y8 : Int32) : Nat → Int64 → Int32 → Option (Int64 × Mem)
  | 0 => fun _ _ => none
  | n + 1 => fun x9 x10 => fX11_covers_L31_b k71 m6 y7 y8 (fX11_covers_L31 k71 m6 y7 y8 n) x9 x10
def fX11_covers (m0 : Mem) (a1 : Int32) (a2 : Int32) : Option (Int64 × Mem) :=
  cl (fX11_isForm m0 a1) <| fun r2 m1 =>
  if r2 = (0 : Int32) then
    some ((0 : Int64), m1)
  else
    cl (fX11_isIn m1 ((a2).toInt64) (0 : Int64) (63 : Int64)) <| fun r4 m3 =>
    if r4 = (0 : Int32) then
      some ((0 : Int64), m3)
    else
      cl (fX11_looks m3) <| fun _ m5 =>
      fX11_covers_L31
        (fun (x12 : Int64) =>
          some (x12, m5))
        m5 a1 a2 5000 (0 : Int64) (0 : Int32)
def rmX11_next : Room := { frames := 5, cells := 1, slots := 12, locals := 122 }
def fX11_next_L40_b (k61 : Mem → Int32 → Option (Int32 × Mem)) (k69 : Mem → Option (Int32 × Mem)) (y11 : Int32) (rec : Mem → Int32 → Option (Int32 × Mem)) (m10 : Mem) (x12 : Int32) : Option (Int32 × Mem) :=
  if x12 < (4096 : Int32) then
    ck (inb x12 4096) <|
    cl (fX11_asked m10 y11) <| fun r20 m19 =>
    if (m10 372 (ix x12)) = r20 then
      k61 m19 x12
    else
      rec m19 (x12 + (1 : Int32))
  else
    k69 m10
def fX11_next_L40 (k61 : Mem → Int32 → Option (Int32 × Mem)) (k69 : Mem → Option (Int32 × Mem)) (y11 : Int32) : Nat → Mem → Int32 → Option (Int32 × Mem)
  | 0 => fun _ _ => none
  | n + 1 => fun m10 x12 => fX11_next_L40_b k61 k69 y11 (fX11_next_L40 k61 k69 y11 n) m10 x12
def fX11_next (m0 : Mem) (a1 : Int32) (a2 : Int32) : Option (Int32 × Mem) :=
  cl (fX11_asked m0 a1) <| fun r2 m1 =>
  lt (fun (m3 : Mem) =>
    cl (fX11_refuse m3 (-1001 : Int32)) <| fun r5 m4 =>
    some (r5, m4)) <| fun j24 =>
  if r2 = (-9 : Int32) then
    j24 m1
  else
    cl (fX11_isIn m1 ((a2).toInt64) (-1 : Int64) (4095 : Int64)) <| fun r7 m6 =>
    if r7 = (0 : Int32) then
      j24 m6
    else
      cl (fX11_looks m6) <| fun _ m8 =>
      lt (a2 + (1 : Int32)) <| fun x9 =>
      fX11_next_L40
        (fun (m15 : Mem) (x16 : Int32) =>
          some (x16, m15))
        (fun (m18 : Mem) =>
          some ((-1 : Int32), m18))
        a1 5000 m8 x9
def rmX11_witness : Room := { frames := 5, cells := 1, slots := 12, locals := 122 }
def fX11_witness_L6_b (k50 : Mem → Int32 → Option (Int32 × Mem)) (k58 : Mem → Option (Int32 × Mem)) (y3 : Int32) (y4 : Int32) (rec : Mem → Int32 → Option (Int32 × Mem)) (m2 : Mem) (x5 : Int32) : Option (Int32 × Mem) :=
  if x5 < (4096 : Int32) then
    ck (inb x5 4096) <|
    lt (fun (m12 : Mem) =>
      rec m12 (x5 + (1 : Int32))) <| fun j52 =>
    if (m2 372 (ix x5)) = (-2 : Int32) then
      ck (inb x5 4096) <|
      cl (fX11_has m2 (m2 371 (ix x5)) y3) <| fun r14 m13 =>
      if r14 = (0 : Int32) then
        j52 m13
      else
        ck (inb x5 4096) <|
        cl (fX11_has m13 (m13 371 (ix x5)) y4) <| fun r16 m15 =>
        if r16 = (0 : Int32) then
          j52 m15
        else
          k50 m15 x5
    else
      j52 m2
  else
    k58 m2
def fX11_witness_L6 (k50 : Mem → Int32 → Option (Int32 × Mem)) (k58 : Mem → Option (Int32 × Mem)) (y3 : Int32) (y4 : Int32) : Nat → Mem → Int32 → Option (Int32 × Mem)
  | 0 => fun _ _ => none
  | n + 1 => fun m2 x5 => fX11_witness_L6_b k50 k58 y3 y4 (fX11_witness_L6 k50 k58 y3 y4 n) m2 x5
def fX11_witness (m0 : Mem) (a1 : Int32) (a2 : Int32) : Option (Int32 × Mem) :=
  cl (fX11_looks m0) <| fun _ m1 =>
  fX11_witness_L6
    (fun (m8 : Mem) (x9 : Int32) =>
      some (x9, m8))
    (fun (m11 : Mem) =>
      some ((-1 : Int32), m11))
    a1 a2 5000 m1 (0 : Int32)
def rmX11_clash : Room := { frames := 6, cells := 169, slots := 2028, locals := 145 }
def fX11_clash_L42_b (k71 : Mem → Int32 → Int32 → Option (Int32 × Mem)) (k108 : Mem → Int32 → Option (Int32 × Mem)) (y23 : Int32) (y24 : Int32) (y26 : Int32) (rec : Mem → Int32 → Int32 → Option (Int32 × Mem)) (m22 : Mem) (x25 : Int32) (x27 : Int32) : Option (Int32 × Mem) :=
  if x27 < (m22 362 8) then
    cl (fX11_witness m22 y26 x27) <| fun r39 m38 =>
    lt (α := Option (Int32 × Mem)) (
      lt (fun (v40 : Int32) =>
        lt (x25 + v40) <| fun x41 =>
        rec m38 x41 (x27 + (1 : Int32))) <| fun j100 =>
      if r39 < (0 : Int32) then
        j100 (0 : Int32)
      else
        j100 (1 : Int32)) <| fun j89 =>
    if r39 < (0 : Int32) then
      j89
    else
      if x25 = y23 then
        k71 m38 x27 r39
      else
        j89
  else
    k108 m22 x25
def fX11_clash_L42 (k71 : Mem → Int32 → Int32 → Option (Int32 × Mem)) (k108 : Mem → Int32 → Option (Int32 × Mem)) (y23 : Int32) (y24 : Int32) (y26 : Int32) : Nat → Mem → Int32 → Int32 → Option (Int32 × Mem)
  | 0 => fun _ _ _ => none
  | n + 1 => fun m22 x25 x27 => fX11_clash_L42_b k71 k108 y23 y24 y26 (fX11_clash_L42 k71 k108 y23 y24 y26 n) m22 x25 x27
def fX11_clash_L27_b (k71 : Mem → Int32 → Int32 → Int32 → Option (Int32 × Mem)) (k114 : Mem → Option (Int32 × Mem)) (y7 : Int32) (y8 : Int32) (rec : Mem → Int32 → Int32 → Option (Int32 × Mem)) (m6 : Mem) (x9 : Int32) (x10 : Int32) : Option (Int32 × Mem) :=
  if x10 < (m6 362 8) then
    lt (x10 + (1 : Int32)) <| fun x21 =>
    fX11_clash_L42
      (fun (m31 : Mem) (x32 : Int32) (x33 : Int32) =>
        k71 m31 x10 x32 x33)
      (fun (m36 : Mem) (x37 : Int32) =>
        rec m36 x37 (x10 + (1 : Int32)))
      y7 y8 x10 13 m6 x9 x21
  else
    k114 m6
def fX11_clash_L27 (k71 : Mem → Int32 → Int32 → Int32 → Option (Int32 × Mem)) (k114 : Mem → Option (Int32 × Mem)) (y7 : Int32) (y8 : Int32) : Nat → Mem → Int32 → Int32 → Option (Int32 × Mem)
  | 0 => fun _ _ _ => none
  | n + 1 => fun m6 x9 x10 => fX11_clash_L27_b k71 k114 y7 y8 (fX11_clash_L27 k71 k114 y7 y8 n) m6 x9 x10
def fX11_clash (m0 : Mem) (a1 : Int32) (a2 : Int32) : Option (Int32 × Mem) :=
  lt (fun (m1 : Mem) =>
    cl (fX11_refuse m1 (-1001 : Int32)) <| fun r3 m2 =>
    some (r3, m2)) <| fun j14 =>
  if a1 < (0 : Int32) then
    j14 m0
  else
    cl (fX11_isIn m0 ((a2).toInt64) (0 : Int64) (1 : Int64)) <| fun r5 m4 =>
    if r5 = (0 : Int32) then
      j14 m4
    else
      fX11_clash_L27
        (fun (m15 : Mem) (x16 : Int32) (x17 : Int32) (x18 : Int32) =>
          if a2 = (0 : Int32) then
            some ((((16 : Int32) * x16) + x17), m15)
          else
            some (x18, m15))
        (fun (m20 : Mem) =>
          some ((-1 : Int32), m20))
        a1 a2 13 m4 (0 : Int32) (0 : Int32)
def rmX11_odd : Room := { frames := 6, cells := 182, slots := 2184, locals := 145 }
def fX11_odd_L70_b (k149 : Mem → Int32 → Int32 → Option (Int32 × Mem)) (y24 : Int32) (y25 : Int32) (y28 : Int32) (rec : Mem → Int32 → Int32 → Int32 → Option (Int32 × Mem)) (m23 : Mem) (x26 : Int32) (x27 : Int32) (x29 : Int32) : Option (Int32 × Mem) :=
  if x29 < (m23 362 8) then
    cl (fX11_maskOf m23 y28) <| fun r37 m36 =>
    cl (fX11_maskOf m36 x29) <| fun r39 m38 =>
    lt (fun (m40 : Mem) (v41 : Int32) =>
      lt (x26 + v41) <| fun x42 =>
      lt (fun (m43 : Mem) (v44 : Int32) =>
        lt (x27 + v44) <| fun x45 =>
        rec m43 x42 x45 (x29 + (1 : Int32))) <| fun j140 =>
      lt (fun (m46 : Mem) =>
        j140 m46 (0 : Int32)) <| fun j139 =>
      if y24 = (2 : Int32) then
        cl (fX11_witness m40 y28 x29) <| fun r48 m47 =>
        if r48 < (0 : Int32) then
          j139 m47
        else
          j140 m47 (1 : Int32)
      else
        j139 m40) <| fun j115 =>
    lt (fun (m49 : Mem) =>
      j115 m49 (0 : Int32)) <| fun j114 =>
    if r37 = r39 then
      cl (fX11_valueOf m38 y28) <| fun r51 m50 =>
      cl (fX11_valueOf m50 x29) <| fun r53 m52 =>
      if r51 = r53 then
        j115 m52 (1 : Int32)
      else
        j114 m52
    else
      j114 m38
  else
    k149 m23 x26 x27
def fX11_odd_L70 (k149 : Mem → Int32 → Int32 → Option (Int32 × Mem)) (y24 : Int32) (y25 : Int32) (y28 : Int32) : Nat → Mem → Int32 → Int32 → Int32 → Option (Int32 × Mem)
  | 0 => fun _ _ _ _ => none
  | n + 1 => fun m23 x26 x27 x29 => fX11_odd_L70_b k149 y24 y25 y28 (fX11_odd_L70 k149 y24 y25 y28 n) m23 x26 x27 x29
def fX11_odd_L30_b (k155 : Mem → Int32 → Int32 → Int32 → Option (Int32 × Mem)) (y6 : Int32) (rec : Mem → Int32 → Int32 → Int32 → Int32 → Option (Int32 × Mem)) (m5 : Mem) (x7 : Int32) (x8 : Int32) (x9 : Int32) (x10 : Int32) : Option (Int32 × Mem) :=
  if x10 < (m5 362 8) then
    lt (fun (m19 : Mem) (v20 : Int32) =>
      lt (x7 ||| v20) <| fun x21 =>
      lt (x10 + (1 : Int32)) <| fun x22 =>
      fX11_odd_L70
        (fun (m33 : Mem) (x34 : Int32) (x35 : Int32) =>
          rec m33 x21 x34 x35 (x10 + (1 : Int32)))
        y6 x21 x10 13 m19 x8 x9 x22) <| fun j62 =>
    lt (fun (m54 : Mem) =>
      j62 m54 (0 : Int32)) <| fun j61 =>
    if y6 = (0 : Int32) then
      cl (fX11_next m5 x10 (-1 : Int32)) <| fun r56 m55 =>
      if r56 < (0 : Int32) then
        j62 m55 ((1 : Int32) <<< (x10 &&& 31))
      else
        j61 m55
    else
      j61 m5
  else
    k155 m5 x7 x8 x9
def fX11_odd_L30 (k155 : Mem → Int32 → Int32 → Int32 → Option (Int32 × Mem)) (y6 : Int32) : Nat → Mem → Int32 → Int32 → Int32 → Int32 → Option (Int32 × Mem)
  | 0 => fun _ _ _ _ _ => none
  | n + 1 => fun m5 x7 x8 x9 x10 => fX11_odd_L30_b k155 y6 (fX11_odd_L30 k155 y6 n) m5 x7 x8 x9 x10
def fX11_odd (m0 : Mem) (a1 : Int32) : Option (Int32 × Mem) :=
  cl (fX11_isIn m0 ((a1).toInt64) (0 : Int64) (2 : Int64)) <| fun r2 m1 =>
  if r2 = (0 : Int32) then
    cl (fX11_refuse m1 (-1001 : Int32)) <| fun r4 m3 =>
    some (r4, m3)
  else
    fX11_odd_L30
      (fun (m15 : Mem) (x16 : Int32) (x17 : Int32) (x18 : Int32) =>
        if a1 = (0 : Int32) then
          some (x16, m15)
        else
          if a1 = (1 : Int32) then
            some (x17, m15)
          else
            some (x18, m15))
      a1 13 m1 (0 : Int32) (0 : Int32) (0 : Int32) (0 : Int32)
def rmX11_isTests : Room := { frames := 1, cells := 0, slots := 0, locals := 25 }
def fX11_isTests (m0 : Mem) (a0 : Int32) : Option (Int32 × Mem) :=
  cl (fX11_isIn m0 ((a0).toInt64) (0 : Int64) (4095 : Int64)) <| fun r2 m1 =>
  if r2 = (0 : Int32) then
    some ((0 : Int32), m1)
  else
    cl (fX11_size m1 a0) <| fun r4 m3 =>
    if (6 : Int32) < r4 then
      some ((0 : Int32), m3)
    else
      some ((1 : Int32), m3)
def rmX11_side : Room := { frames := 1, cells := 0, slots := 0, locals := 21 }
def fX11_side_L6_b (k82 : Mem → Int32 → Option (Int32 × Mem)) (y2 : Int32) (y3 : Int32) (y4 : Int32) (rec : Mem → Int32 → Int32 → Option (Int32 × Mem)) (m1 : Mem) (x5 : Int32) (x6 : Int32) : Option (Int32 × Mem) :=
  if x6 < (m1 362 8) then
    cl (fX11_maskOf m1 x6) <| fun r12 m11 =>
    cl (fX11_has m11 r12 y3) <| fun r14 m13 =>
    lt (fun (m15 : Mem) (v16 : Int32) =>
      cl (fX11_has m15 y2 x6) <| fun r18 m17 =>
      lt (fun (v19 : Int32) =>
        lt (x5 ||| v19) <| fun x20 =>
        rec m17 x20 (x6 + (1 : Int32))) <| fun j73 =>
      lt (α := Option (Int32 × Mem)) (
        j73 (0 : Int32)) <| fun j72 =>
      if r18 = (0 : Int32) then
        j72
      else
        if v16 = (0 : Int32) then
          j73 ((1 : Int32) <<< (x6 &&& 31))
        else
          j72) <| fun j47 =>
    lt (fun (m21 : Mem) =>
      j47 m21 (0 : Int32)) <| fun j46 =>
    if r14 = (0 : Int32) then
      j46 m13
    else
      cl (fX11_valueOf m13 x6) <| fun r23 m22 =>
      if ((r23 >>> (y3 &&& 31)) &&& (1 : Int32)) = y4 then
        j46 m22
      else
        j47 m22 (1 : Int32)
  else
    k82 m1 x5
def fX11_side_L6 (k82 : Mem → Int32 → Option (Int32 × Mem)) (y2 : Int32) (y3 : Int32) (y4 : Int32) : Nat → Mem → Int32 → Int32 → Option (Int32 × Mem)
  | 0 => fun _ _ _ => none
  | n + 1 => fun m1 x5 x6 => fX11_side_L6_b k82 y2 y3 y4 (fX11_side_L6 k82 y2 y3 y4 n) m1 x5 x6
def fX11_side (m0 : Mem) (a1 : Int32) (a2 : Int32) (a3 : Int32) : Option (Int32 × Mem) :=
  fX11_side_L6
    (fun (m9 : Mem) (x10 : Int32) =>
      some (x10, m9))
    a1 a2 a3 5000 m0 (0 : Int32) (0 : Int32)
def rmX11_isUseful : Room := { frames := 1, cells := 0, slots := 0, locals := 21 }
def fX11_isUseful_L5_b (k52 : Mem → Int32 → Option (Int32 × Mem)) (y2 : Int32) (y3 : Int32) (rec : Mem → Int32 → Int32 → Option (Int32 × Mem)) (m1 : Mem) (x4 : Int32) (x5 : Int32) : Option (Int32 × Mem) :=
  if x5 < (m1 362 8) then
    lt (fun (m10 : Mem) (v11 : Int32) =>
      rec m10 v11 (x5 + (1 : Int32))) <| fun j45 =>
    lt (fun (m12 : Mem) =>
      j45 m12 (1 : Int32)) <| fun j40 =>
    if x4 = (0 : Int32) then
      cl (fX11_has m1 y2 x5) <| fun r14 m13 =>
      lt (fun (m15 : Mem) =>
        j45 m15 (0 : Int32)) <| fun j44 =>
      if r14 = (0 : Int32) then
        j44 m13
      else
        cl (fX11_maskOf m13 x5) <| fun r17 m16 =>
        cl (fX11_has m16 r17 y3) <| fun r19 m18 =>
        if r19 = (0 : Int32) then
          j44 m18
        else
          j40 m18
    else
      j40 m1
  else
    k52 m1 x4
def fX11_isUseful_L5 (k52 : Mem → Int32 → Option (Int32 × Mem)) (y2 : Int32) (y3 : Int32) : Nat → Mem → Int32 → Int32 → Option (Int32 × Mem)
  | 0 => fun _ _ _ => none
  | n + 1 => fun m1 x4 x5 => fX11_isUseful_L5_b k52 y2 y3 (fX11_isUseful_L5 k52 y2 y3 n) m1 x4 x5
def fX11_isUseful (m0 : Mem) (a1 : Int32) (a2 : Int32) : Option (Int32 × Mem) :=
  fX11_isUseful_L5
    (fun (m8 : Mem) (x9 : Int32) =>
      ck (isB x9) (some (x9, m8)))
    a1 a2 5000 m0 (0 : Int32) (0 : Int32)
def rmX11_greedyBit : Room := { frames := 2, cells := 0, slots := 0, locals := 47 }
def fX11_greedyBit_L12_b (k129 : Mem → Int32 → Option (Int32 × Mem)) (y2 : Int32) (y3 : Int32) (rec : Mem → Int32 → Int32 → Int32 → Int32 → Option (Int32 × Mem)) (m1 : Mem) (x4 : Int32) (x5 : Int32) (x6 : Int32) (x7 : Int32) : Option (Int32 × Mem) :=
  if x7 < (0 : Int32) then
    k129 m1 x4
  else
    cl (fX11_has m1 y3 x7) <| fun r13 m12 =>
    lt (fun (m14 : Mem) (x15 : Int32) (x16 : Int32) (x17 : Int32) =>
      rec m14 x15 x16 x17 (x7 + (-1 : Int32))) <| fun j123 =>
    if r13 = (0 : Int32) then
      j123 m12 x4 x5 x6
    else
      cl (fX11_isUseful m12 y2 x7) <| fun r19 m18 =>
      if r19 = (0 : Int32) then
        j123 m18 x4 x5 x6
      else
        cl (fX11_side m18 y2 x7 (0 : Int32)) <| fun r21 m20 =>
        cl (fX11_size m20 r21) <| fun r23 m22 =>
        cl (fX11_side m22 y2 x7 (1 : Int32)) <| fun r25 m24 =>
        cl (fX11_size m24 r25) <| fun r27 m26 =>
        lt (fun (v28 : Int32) =>
          lt (α := Option (Int32 × Mem)) (
            lt (r23 + r27) <| fun x29 =>
            j123 m26 x7 v28 x29) <| fun j109 =>
          if x4 < (0 : Int32) then
            j109
          else
            if v28 < x5 then
              j109
            else
              if v28 = x5 then
                if (r23 + r27) < x6 then
                  j109
                else
                  j123 m26 x4 x5 x6
              else
                j123 m26 x4 x5 x6) <| fun j79 =>
        if r27 < r23 then
          j79 r23
        else
          j79 r27
def fX11_greedyBit_L12 (k129 : Mem → Int32 → Option (Int32 × Mem)) (y2 : Int32) (y3 : Int32) : Nat → Mem → Int32 → Int32 → Int32 → Int32 → Option (Int32 × Mem)
  | 0 => fun _ _ _ _ _ => none
  | n + 1 => fun m1 x4 x5 x6 x7 => fX11_greedyBit_L12_b k129 y2 y3 (fX11_greedyBit_L12 k129 y2 y3 n) m1 x4 x5 x6 x7
def fX11_greedyBit (m0 : Mem) (a1 : Int32) (a2 : Int32) : Option (Int32 × Mem) :=
  fX11_greedyBit_L12
    (fun (m10 : Mem) (x11 : Int32) =>
      some (x11, m10))
    a1 a2 5000 m0 (-1 : Int32) (0 : Int32) (0 : Int32) (11 : Int32)
def rmX11_goesGreedy (d : Nat) : Room := { frames := 10 + d, cells := 0, slots := 0, locals := 600 + 100 * d }
def fX11_goesGreedy_b (self : Mem → Int32 → Int32 → Int32 → Option (Unit × Mem)) (m0 : Mem) (a1 : Int32) (a2 : Int32) (a3 : Int32) : Option (Unit × Mem) :=
  cl (fX11_greedyBit m0 a1 a2) <| fun r2 m1 =>
  if r2 < (0 : Int32) then
    lt (fun (v3 : Int32) =>
      lt (sto m1 362 32 v3) <| fun m4 =>
      cl (fX11_size m4 a1) <| fun r6 m5 =>
      lt (fun (m7 : Mem) (v8 : Int32) =>
        lt (sto m7 362 33 v8) <| fun m9 =>
        some ((), m9)) <| fun j56 =>
      if (m5 362 33) < r6 then
        cl (fX11_size m5 a1) <| fun r11 m10 =>
        j56 m10 r11
      else
        j56 m5 (m5 362 33)) <| fun j30 =>
    if (m1 362 32) < a3 then
      j30 a3
    else
      j30 (m1 362 32)
  else
    lt (sto m1 362 31 ((m1 362 31) + (1 : Int32))) <| fun m12 =>
    cl (fX11_side m12 a1 r2 (0 : Int32)) <| fun r14 m13 =>
    cl (self m13 r14 (a2 &&& (((1 : Int32) <<< (r2 &&& 31)) ^^^ (-1 : Int32))) (a3 + (1 : Int32))) <| fun _ m15 =>
    cl (fX11_side m15 a1 r2 (1 : Int32)) <| fun r17 m16 =>
    cl (self m16 r17 (a2 &&& (((1 : Int32) <<< (r2 &&& 31)) ^^^ (-1 : Int32))) (a3 + (1 : Int32))) <| fun _ m18 =>
    some ((), m18)
def fX11_goesGreedy : Nat → Mem → Int32 → Int32 → Int32 → Option (Unit × Mem)
  | 0 => fun _ _ _ _ => none
  | d + 1 => fun m0 a1 a2 a3 => fX11_goesGreedy_b (fX11_goesGreedy d) m0 a1 a2 a3
def rmX11_greedy : Room := { frames := 60, cells := 0, slots := 0, locals := 4000 }
def fX11_greedy (m0 : Mem) (a1 : Int32) (a2 : Int32) : Option (Int32 × Mem) :=
  cl (fX11_isTests m0 a1) <| fun r2 m1 =>
  lt (fun (m3 : Mem) =>
    cl (fX11_refuse m3 (-1001 : Int32)) <| fun r5 m4 =>
    some (r5, m4)) <| fun j19 =>
  if r2 = (0 : Int32) then
    j19 m1
  else
    cl (fX11_isIn m1 ((a2).toInt64) (0 : Int64) (3 : Int64)) <| fun r7 m6 =>
    if r7 = (0 : Int32) then
      j19 m6
    else
      lt (((1 : Int32) <<< ((m6 362 8) &&& 31)) - (1 : Int32)) <| fun x8 =>
      lt (sto m6 362 31 (0 : Int32)) <| fun m9 =>
      lt (sto m9 362 32 (0 : Int32)) <| fun m10 =>
      lt (sto m10 362 33 (0 : Int32)) <| fun m11 =>
      cl (fX11_goesGreedy 8 m11 x8 a1 (0 : Int32)) <| fun _ m12 =>
      if a2 = (0 : Int32) then
        some ((m12 362 31), m12)
      else
        if a2 = (1 : Int32) then
          some ((m12 362 32), m12)
        else
          if a2 = (2 : Int32) then
            cl (fX11_greedyBit m12 x8 a1) <| fun r14 m13 =>
            some (r14, m13)
          else
            some ((m12 362 33), m12)
def rmX11_leastTests (d : Nat) : Room := { frames := 10 + 2 * d, cells := 0, slots := 0, locals := 600 + 200 * d }
def rmX11_leastBy (d : Nat) : Room := { frames := 11 + 2 * d, cells := 0, slots := 0, locals := 700 + 200 * d }
def fX11_leastBy_b (self : Mem → Int32 → Int32 → Option (Int32 × Mem)) (m0 : Mem) (a1 : Int32) (a2 : Int32) (a3 : Int32) : Option (Int32 × Mem) :=
  lt (a2 &&& (((1 : Int32) <<< (a3 &&& 31)) ^^^ (-1 : Int32))) <| fun x1 =>
  cl (fX11_side m0 a1 a3 (0 : Int32)) <| fun r3 m2 =>
  cl (self m2 r3 x1) <| fun r5 m4 =>
  cl (fX11_side m4 a1 a3 (1 : Int32)) <| fun r7 m6 =>
  cl (self m6 r7 x1) <| fun r9 m8 =>
  some ((((1 : Int32) + r5) + r9), m8)
def fX11_leastTests_L5_b (self : Mem → Int32 → Int32 → Int32 → Option (Int32 × Mem)) (k64 : Mem → Int32 → Option (Int32 × Mem)) (y2 : Int32) (y3 : Int32) (rec : Mem → Int32 → Int32 → Option (Int32 × Mem)) (m1 : Mem) (x4 : Int32) (x5 : Int32) : Option (Int32 × Mem) :=
  if x5 < (12 : Int32) then
    cl (fX11_has m1 y3 x5) <| fun r11 m10 =>
    lt (fun (m12 : Mem) (x13 : Int32) =>
      rec m12 x13 (x5 + (1 : Int32))) <| fun j58 =>
    if r11 = (0 : Int32) then
      j58 m10 x4
    else
      cl (fX11_isUseful m10 y2 x5) <| fun r15 m14 =>
      if r15 = (0 : Int32) then
        j58 m14 x4
      else
        cl (self m14 y2 y3 x5) <| fun r17 m16 =>
        lt (fun (v18 : Int32) =>
          j58 m16 v18) <| fun j57 =>
        lt (α := Option (Int32 × Mem)) (
          j57 r17) <| fun j51 =>
        if x4 < (0 : Int32) then
          j51
        else
          if r17 < x4 then
            j51
          else
            j57 x4
  else
    k64 m1 x4
def fX11_leastTests_L5 (self : Mem → Int32 → Int32 → Int32 → Option (Int32 × Mem)) (k64 : Mem → Int32 → Option (Int32 × Mem)) (y2 : Int32) (y3 : Int32) : Nat → Mem → Int32 → Int32 → Option (Int32 × Mem)
  | 0 => fun _ _ _ => none
  | n + 1 => fun m1 x4 x5 => fX11_leastTests_L5_b self k64 y2 y3 (fX11_leastTests_L5 self k64 y2 y3 n) m1 x4 x5
def fX11_leastTests_b (self : Mem → Int32 → Int32 → Int32 → Option (Int32 × Mem)) (m0 : Mem) (a1 : Int32) (a2 : Int32) : Option (Int32 × Mem) :=
  fX11_leastTests_L5 self
    (fun (m8 : Mem) (x9 : Int32) =>
      if x9 < (0 : Int32) then
        some ((0 : Int32), m8)
      else
        some (x9, m8))
    a1 a2 5000 m0 (-1 : Int32) (0 : Int32)
def fX11_leastTests : Nat → Mem → Int32 → Int32 → Option (Int32 × Mem)
  | 0 => fun _ _ _ => none
  | d + 1 => fun m0 a1 a2 => fX11_leastTests_b (fX11_leastBy_b (fX11_leastTests d)) m0 a1 a2
def fX11_leastBy (d : Nat) : Mem → Int32 → Int32 → Int32 → Option (Int32 × Mem) := fX11_leastBy_b (fX11_leastTests d)
def rmX11_least : Room := { frames := 60, cells := 0, slots := 0, locals := 4000 }
def fX11_least_L53_b (k90 : Mem → Int32 → Option (Int32 × Mem)) (k99 : Mem → Option (Int32 × Mem)) (y12 : Int32) (y13 : Int32) (y14 : Int32) (rec : Mem → Int32 → Option (Int32 × Mem)) (m11 : Mem) (x15 : Int32) : Option (Int32 × Mem) :=
  if x15 < (0 : Int32) then
    k99 m11
  else
    cl (fX11_has m11 y12 x15) <| fun r23 m22 =>
    lt (fun (m24 : Mem) =>
      rec m24 (x15 + (-1 : Int32))) <| fun j93 =>
    if r23 = (0 : Int32) then
      j93 m22
    else
      cl (fX11_isUseful m22 y13 x15) <| fun r26 m25 =>
      if r26 = (0 : Int32) then
        j93 m25
      else
        cl (fX11_leastBy 8 m25 y13 y12 x15) <| fun r28 m27 =>
        if r28 = y14 then
          k90 m27 x15
        else
          j93 m27
def fX11_least_L53 (k90 : Mem → Int32 → Option (Int32 × Mem)) (k99 : Mem → Option (Int32 × Mem)) (y12 : Int32) (y13 : Int32) (y14 : Int32) : Nat → Mem → Int32 → Option (Int32 × Mem)
  | 0 => fun _ _ => none
  | n + 1 => fun m11 x15 => fX11_least_L53_b k90 k99 y12 y13 y14 (fX11_least_L53 k90 k99 y12 y13 y14 n) m11 x15
def fX11_least (m0 : Mem) (a1 : Int32) (a2 : Int32) : Option (Int32 × Mem) :=
  cl (fX11_isTests m0 a1) <| fun r2 m1 =>
  lt (fun (m3 : Mem) =>
    cl (fX11_refuse m3 (-1001 : Int32)) <| fun r5 m4 =>
    some (r5, m4)) <| fun j17 =>
  if r2 = (0 : Int32) then
    j17 m1
  else
    cl (fX11_isIn m1 ((a2).toInt64) (0 : Int64) (1 : Int64)) <| fun r7 m6 =>
    if r7 = (0 : Int32) then
      j17 m6
    else
      lt (((1 : Int32) <<< ((m6 362 8) &&& 31)) - (1 : Int32)) <| fun x8 =>
      cl (fX11_leastTests 8 m6 x8 a1) <| fun r10 m9 =>
      if a2 = (0 : Int32) then
        some (r10, m9)
      else
        fX11_least_L53
          (fun (m18 : Mem) (x19 : Int32) =>
            some (x19, m18))
          (fun (m21 : Mem) =>
            some ((-1 : Int32), m21))
          a1 x8 r10 5000 m9 (11 : Int32)
def rmX11_leaf : Room := { frames := 3, cells := 0, slots := 0, locals := 76 }
def fX11_leaf_L43_b (k85 : Mem → Int32 → Option (Int32 × Mem)) (y12 : Int32) (rec : Mem → Int32 → Int32 → Int32 → Option (Int32 × Mem)) (m11 : Mem) (x13 : Int32) (x14 : Int32) (x15 : Int32) : Option (Int32 × Mem) :=
  if x15 < (0 : Int32) then
    k85 m11 x13
  else
    cl (fX11_side m11 x13 x15 ((y12 >>> (x15 &&& 31)) &&& (1 : Int32))) <| fun r21 m20 =>
    lt (x14 &&& (((1 : Int32) <<< (x15 &&& 31)) ^^^ (-1 : Int32))) <| fun x22 =>
    cl (fX11_greedyBit m20 r21 x22) <| fun r24 m23 =>
    rec m23 r21 x22 r24
def fX11_leaf_L43 (k85 : Mem → Int32 → Option (Int32 × Mem)) (y12 : Int32) : Nat → Mem → Int32 → Int32 → Int32 → Option (Int32 × Mem)
  | 0 => fun _ _ _ _ => none
  | n + 1 => fun m11 x13 x14 x15 => fX11_leaf_L43_b k85 y12 (fX11_leaf_L43 k85 y12 n) m11 x13 x14 x15
def fX11_leaf (m0 : Mem) (a1 : Int32) (a2 : Int32) : Option (Int32 × Mem) :=
  cl (fX11_isTests m0 a1) <| fun r2 m1 =>
  lt (fun (m3 : Mem) =>
    cl (fX11_refuse m3 (-1001 : Int32)) <| fun r5 m4 =>
    some (r5, m4)) <| fun j14 =>
  if r2 = (0 : Int32) then
    j14 m1
  else
    cl (fX11_isWord m1 a2) <| fun r7 m6 =>
    if r7 = (0 : Int32) then
      j14 m6
    else
      lt (((1 : Int32) <<< ((m6 362 8) &&& 31)) - (1 : Int32)) <| fun x8 =>
      cl (fX11_greedyBit m6 x8 a1) <| fun r10 m9 =>
      fX11_leaf_L43
        (fun (m18 : Mem) (x19 : Int32) =>
          some (x19, m18))
        a2 5000 m9 x8 a1 r10
def rmX11_field : Room := { frames := 2, cells := 0, slots := 0, locals := 48 }
def fX11_field_L58_b (k75 : Mem → Int32 → Option (Int32 × Mem)) (y13 : Int32) (y14 : Int32) (y15 : Int32) (y16 : Int32) (rec : Mem → Int32 → Option (Int32 × Mem)) (m12 : Mem) (x17 : Int32) : Option (Int32 × Mem) :=
  cl (fX11_fieldAt m12 y13 x17) <| fun r25 m24 =>
  if r25 = y14 then
    k75 m24 x17
  else
    rec m24 (x17 + (1 : Int32))
def fX11_field_L58 (k75 : Mem → Int32 → Option (Int32 × Mem)) (y13 : Int32) (y14 : Int32) (y15 : Int32) (y16 : Int32) : Nat → Mem → Int32 → Option (Int32 × Mem)
  | 0 => fun _ _ => none
  | n + 1 => fun m12 x17 => fX11_field_L58_b k75 y13 y14 y15 y16 (fX11_field_L58 k75 y13 y14 y15 y16 n) m12 x17
def fX11_field (m0 : Mem) (a1 : Int32) (a2 : Int32) (a3 : Int32) : Option (Int32 × Mem) :=
  cl (fX11_isForm m0 a1) <| fun r2 m1 =>
  lt (fun (m3 : Mem) =>
    cl (fX11_refuse m3 (-1001 : Int32)) <| fun r5 m4 =>
    some (r5, m4)) <| fun j32 =>
  if r2 = (0 : Int32) then
    j32 m1
  else
    cl (fX11_isIn m1 ((a2).toInt64) (0 : Int64) (7 : Int64)) <| fun r7 m6 =>
    if r7 = (0 : Int32) then
      j32 m6
    else
      cl (fX11_isIn m6 ((a3).toInt64) (0 : Int64) (2 : Int64)) <| fun r9 m8 =>
      if r9 = (0 : Int32) then
        j32 m8
      else
        cl (fX11_bitsOf m8 a1 a2) <| fun r11 m10 =>
        if r11 = (0 : Int32) then
          some ((-1 : Int32), m10)
        else
          fX11_field_L58
            (fun (m20 : Mem) (x21 : Int32) =>
              if a3 = (0 : Int32) then
                cl (fX11_size m20 r11) <| fun r23 m22 =>
                some (r23, m22)
              else
                if a3 = (1 : Int32) then
                  some (r11, m20)
                else
                  some (x21, m20))
            a1 a2 a3 r11 5000 m10 (0 : Int32)
def rmX11_taken : Room := { frames := 3, cells := 0, slots := 0, locals := 68 }
def fX11_taken (m0 : Mem) (a1 : Int32) (a2 : Int32) (a3 : Int32) : Option (Int32 × Mem) :=
  cl (fX11_isForm m0 a1) <| fun r2 m1 =>
  lt (fun (m3 : Mem) =>
    cl (fX11_refuse m3 (-1001 : Int32)) <| fun r5 m4 =>
    some (r5, m4)) <| fun j34 =>
  if r2 = (0 : Int32) then
    j34 m1
  else
    cl (fX11_isField m1 a1 a2) <| fun r7 m6 =>
    if r7 = (0 : Int32) then
      j34 m6
    else
      cl (fX11_isWord m6 a3) <| fun r9 m8 =>
      if r9 = (0 : Int32) then
        j34 m8
      else
        cl (fX11_stands m8 a1 a2 a3) <| fun r11 m10 =>
        some (r11, m10)
def rmX11_laid : Room := { frames := 3, cells := 0, slots := 0, locals := 70 }
def fX11_laid (m0 : Mem) (a1 : Int32) (a2 : Int32) (a3 : Int32) (a4 : Int32) : Option (Int32 × Mem) :=
  cl (fX11_isForm m0 a1) <| fun r2 m1 =>
  lt (fun (m3 : Mem) (v4 : Int32) =>
    if v4 = (0 : Int32) then
      cl (fX11_refuse m3 (-1001 : Int32)) <| fun r6 m5 =>
      some (r6, m5)
    else
      cl (fX11_laidIn m3 a1 a2 a3 a4) <| fun r8 m7 =>
      some (r8, m7)) <| fun j40 =>
  lt (fun (m9 : Mem) =>
    j40 m9 (0 : Int32)) <| fun j39 =>
  if r2 = (0 : Int32) then
    j39 m1
  else
    cl (fX11_isField m1 a1 a2) <| fun r11 m10 =>
    if r11 = (0 : Int32) then
      j39 m10
    else
      cl (fX11_isWord m10 a3) <| fun r13 m12 =>
      if r13 = (0 : Int32) then
        j39 m12
      else
        cl (fX11_canStand m12 a1 a2 a4) <| fun r15 m14 =>
        if r15 = (0 : Int32) then
          j39 m14
        else
          j40 m14 (1 : Int32)
def rmX11_notes : Room := { frames := 0, cells := 0, slots := 0, locals := 0 }
def fX11_notes_L51_b (k83 : Mem → Option (Unit × Mem))  (rec : Mem → Int32 → Option (Unit × Mem)) (m2 : Mem) (x3 : Int32) : Option (Unit × Mem) :=
  if x3 < (73 : Int32) then
    ck (inb x3 73) <|
    ck (inb (((73 : Int32) * (m2 362 18)) + x3) 1168) <|
    lt (sto m2 376 (ix (((73 : Int32) * (m2 362 18)) + x3)) (m2 375 (ix x3))) <| fun m7 =>
    rec m7 (x3 + (1 : Int32))
  else
    k83 m2
def fX11_notes_L51 (k83 : Mem → Option (Unit × Mem))  : Nat → Mem → Int32 → Option (Unit × Mem)
  | 0 => fun _ _ => none
  | n + 1 => fun m2 x3 => fX11_notes_L51_b k83  (fX11_notes_L51 k83  n) m2 x3
def fX11_notes_L11_b (k39 : Mem → Option (Unit × Mem))  (rec : Mem → Int32 → Option (Unit × Mem)) (m8 : Mem) (x9 : Int32) : Option (Unit × Mem) :=
  if x9 < (1095 : Int32) then
    ck (inb (x9 + (73 : Int32)) 1168) <|
    ck (inb x9 1168) <|
    lt (sto m8 376 (ix x9) (m8 376 (ix (x9 + (73 : Int32))))) <| fun m13 =>
    rec m13 (x9 + (1 : Int32))
  else
    k39 m8
def fX11_notes_L11 (k39 : Mem → Option (Unit × Mem))  : Nat → Mem → Int32 → Option (Unit × Mem)
  | 0 => fun _ _ => none
  | n + 1 => fun m8 x9 => fX11_notes_L11_b k39  (fX11_notes_L11 k39  n) m8 x9
def fX11_notes (m0 : Mem) : Option (Unit × Mem) :=
  lt (fun (m1 : Mem) =>
    fX11_notes_L51
      (fun (m5 : Mem) =>
        lt (sto m5 362 18 ((m5 362 18) + (1 : Int32))) <| fun m6 =>
        some ((), m6))
      5000 m1 (0 : Int32)) <| fun j49 =>
  if (m0 362 18) = (16 : Int32) then
    fX11_notes_L11
      (fun (m11 : Mem) =>
        lt (sto m11 362 18 ((m11 362 18) - (1 : Int32))) <| fun m12 =>
        j49 m12)
      5000 m0 (0 : Int32)
  else
    j49 m0
def rmX11_undo : Room := { frames := 1, cells := 0, slots := 0, locals := 21 }
def fX11_undo_L27_b (k59 : Mem → Option (Int32 × Mem))  (rec : Mem → Int32 → Option (Int32 × Mem)) (m4 : Mem) (x5 : Int32) : Option (Int32 × Mem) :=
  if x5 < (73 : Int32) then
    ck (inb (((73 : Int32) * (m4 362 18)) + x5) 1168) <|
    ck (inb x5 73) <|
    lt (sto m4 375 (ix x5) (m4 376 (ix (((73 : Int32) * (m4 362 18)) + x5)))) <| fun m8 =>
    rec m8 (x5 + (1 : Int32))
  else
    k59 m4
def fX11_undo_L27 (k59 : Mem → Option (Int32 × Mem))  : Nat → Mem → Int32 → Option (Int32 × Mem)
  | 0 => fun _ _ => none
  | n + 1 => fun m4 x5 => fX11_undo_L27_b k59  (fX11_undo_L27 k59  n) m4 x5
def fX11_undo (m0 : Mem) : Option (Int32 × Mem) :=
  if (m0 362 18) = (0 : Int32) then
    cl (fX11_refuse m0 (-1003 : Int32)) <| fun r2 m1 =>
    some (r2, m1)
  else
    lt (sto m0 362 18 ((m0 362 18) - (1 : Int32))) <| fun m3 =>
    fX11_undo_L27
      (fun (m7 : Mem) =>
        some ((m7 362 18), m7))
      5000 m3 (0 : Int32)
def rmX11_hold : Room := { frames := 1, cells := 0, slots := 0, locals := 25 }
def fX11_hold (m0 : Mem) (a1 : Int32) (a2 : Int32) : Option (Int32 × Mem) :=
  cl (fX11_isIn m0 ((a1).toInt64) (0 : Int64) (7 : Int64)) <| fun r2 m1 =>
  lt (fun (m3 : Mem) =>
    cl (fX11_refuse m3 (-1001 : Int32)) <| fun r5 m4 =>
    some (r5, m4)) <| fun j26 =>
  if r2 = (0 : Int32) then
    j26 m1
  else
    cl (fX11_isIn m1 ((a2).toInt64) (-128 : Int64) (255 : Int64)) <| fun r7 m6 =>
    if r7 = (0 : Int32) then
      j26 m6
    else
      cl (fX11_notes m6) <| fun _ m8 =>
      ck (inb ((0 : Int32) + a1) 73) <|
      lt (m8 375 (ix ((0 : Int32) + a1))) <| fun x9 =>
      ck (inb ((0 : Int32) + a1) 73) <|
      lt (sto m8 375 (ix ((0 : Int32) + a1)) a2) <| fun m10 =>
      some (x9, m10)
def rmX11_make : Room := { frames := 6, cells := 1, slots := 12, locals := 143 }
def fX11_make_L24_b (k59 : Mem → Option (Int32 × Mem)) (k89 : Mem → Int32 → Option (Int32 × Mem)) (y8 : Int32) (rec : Mem → Int32 → Int32 → Option (Int32 × Mem)) (m7 : Mem) (x9 : Int32) (x10 : Int32) : Option (Int32 × Mem) :=
  if x10 < (8 : Int32) then
    cl (fX11_bitsOf m7 y8 x10) <| fun r24 m23 =>
    lt (fun (m25 : Mem) (x26 : Int32) =>
      rec m25 x26 (x10 + (1 : Int32))) <| fun j83 =>
    if r24 = (0 : Int32) then
      j83 m23 x9
    else
      ck (inb ((0 : Int32) + x10) 73) <|
      cl (fX11_canStand m23 y8 x10 (m23 375 (ix ((0 : Int32) + x10)))) <| fun r28 m27 =>
      if r28 = (0 : Int32) then
        k59 m27
      else
        ck (inb ((0 : Int32) + x10) 73) <|
        cl (fX11_laidIn m27 y8 x10 x9 (m27 375 (ix ((0 : Int32) + x10)))) <| fun r30 m29 =>
        j83 m29 r30
  else
    k89 m7 x9
def fX11_make_L24 (k59 : Mem → Option (Int32 × Mem)) (k89 : Mem → Int32 → Option (Int32 × Mem)) (y8 : Int32) : Nat → Mem → Int32 → Int32 → Option (Int32 × Mem)
  | 0 => fun _ _ _ => none
  | n + 1 => fun m7 x9 x10 => fX11_make_L24_b k59 k89 y8 (fX11_make_L24 k59 k89 y8 n) m7 x9 x10
def fX11_make (m0 : Mem) (a1 : Int32) : Option (Int32 × Mem) :=
  cl (fX11_isForm m0 a1) <| fun r2 m1 =>
  if r2 = (0 : Int32) then
    cl (fX11_refuse m1 (-1001 : Int32)) <| fun r4 m3 =>
    some (r4, m3)
  else
    cl (fX11_valueOf m1 a1) <| fun r6 m5 =>
    fX11_make_L24
      (fun (m12 : Mem) =>
        cl (fX11_refuse m12 (-1001 : Int32)) <| fun r14 m13 =>
        some (r14, m13))
      (fun (m17 : Mem) (x18 : Int32) =>
        cl (fX11_meant m17 x18) <| fun r20 m19 =>
        if r20 = a1 then
          some (x18, m19)
        else
          cl (fX11_refuse m19 (-1003 : Int32)) <| fun r22 m21 =>
          some (r22, m21))
      a1 5000 m5 r6 (0 : Int32)
def rmX11_says : Room := { frames := 0, cells := 0, slots := 0, locals := 0 }
def fX11_says (m0 : Mem) (a1 : Int32) : Option (Unit × Mem) :=
  ck (inb (m0 362 15) 64) <|
  lt (sto m0 374 (ix (m0 362 15)) a1) <| fun m1 =>
  lt (sto m1 362 15 ((m1 362 15) + (1 : Int32))) <| fun m2 =>
  some ((), m2)
def rmX11_saysNumber : Room := { frames := 1, cells := 0, slots := 0, locals := 21 }
def fX11_saysNumber_L39_b (k64 : Mem → Option (Unit × Mem)) (y9 : Int32) (rec : Mem → Int32 → Option (Unit × Mem)) (m8 : Mem) (x10 : Int32) : Option (Unit × Mem) :=
  if (0 : Int32) < x10 then
    ck (x10 != 0) <|
    cl (fX11_says m8 ((48 : Int32) + ((y9 / x10) % (10 : Int32)))) <| fun _ m13 =>
    lt (x10 / (10 : Int32)) <| fun x14 =>
    rec m13 x14
  else
    k64 m8
def fX11_saysNumber_L39 (k64 : Mem → Option (Unit × Mem)) (y9 : Int32) : Nat → Mem → Int32 → Option (Unit × Mem)
  | 0 => fun _ _ => none
  | n + 1 => fun m8 x10 => fX11_saysNumber_L39_b k64 y9 (fX11_saysNumber_L39 k64 y9 n) m8 x10
def fX11_saysNumber_L23_b (k39 : Int32 → Option (Unit × Mem)) (m3 : Mem) (y4 : Int32) (rec : Int32 → Option (Unit × Mem)) (x5 : Int32) : Option (Unit × Mem) :=
  ck (x5 != 0) <|
  if (9 : Int32) < (y4 / x5) then
    lt (x5 * (10 : Int32)) <| fun x15 =>
    rec x15
  else
    k39 x5
def fX11_saysNumber_L23 (k39 : Int32 → Option (Unit × Mem)) (m3 : Mem) (y4 : Int32) : Nat → Int32 → Option (Unit × Mem)
  | 0 => fun _ => none
  | n + 1 => fun x5 => fX11_saysNumber_L23_b k39 m3 y4 (fX11_saysNumber_L23 k39 m3 y4 n) x5
def fX11_saysNumber (m0 : Mem) (a1 : Int32) : Option (Unit × Mem) :=
  lt (fun (m1 : Mem) =>
    lt (fun (v2 : Int32) =>
      fX11_saysNumber_L23
        (fun (x7 : Int32) =>
          fX11_saysNumber_L39
            (fun (m12 : Mem) =>
              some ((), m12))
            v2 5000 m1 x7)
        m1 v2 5000 (1 : Int32)) <| fun j20 =>
    if a1 < (0 : Int32) then
      j20 (-a1)
    else
      j20 a1) <| fun j10 =>
  if a1 < (0 : Int32) then
    cl (fX11_says m0 (45 : Int32)) <| fun _ m16 =>
    j10 m16
  else
    j10 m0
def rmX11_write : Room := { frames := 6, cells := 1, slots := 12, locals := 143 }
def fX11_write_L89_b (k126 : Mem → Option (Int32 × Mem)) (y18 : Int32) (y19 : Int32) (rec : Mem → Int32 → Option (Int32 × Mem)) (m17 : Mem) (x20 : Int32) : Option (Int32 × Mem) :=
  cl (fX11_fieldsOf m17 y19) <| fun r24 m23 =>
  if x20 < r24 then
    cl (fX11_says m23 (32 : Int32)) <| fun _ m25 =>
    cl (fX11_fieldAt m25 y19 x20) <| fun r27 m26 =>
    cl (fX11_stands m26 y19 r27 y18) <| fun r29 m28 =>
    cl (fX11_saysNumber m28 r29) <| fun _ m30 =>
    rec m30 (x20 + (1 : Int32))
  else
    k126 m23
def fX11_write_L89 (k126 : Mem → Option (Int32 × Mem)) (y18 : Int32) (y19 : Int32) : Nat → Mem → Int32 → Option (Int32 × Mem)
  | 0 => fun _ _ => none
  | n + 1 => fun m17 x20 => fX11_write_L89_b k126 y18 y19 (fX11_write_L89 k126 y18 y19 n) m17 x20
def fX11_write_L58_b (k87 : Mem → Option (Int32 × Mem)) (y12 : Int32) (y13 : Int32) (rec : Mem → Int32 → Option (Int32 × Mem)) (m11 : Mem) (x14 : Int32) : Option (Int32 × Mem) :=
  cl (fX11_nameMany m11 y13) <| fun r32 m31 =>
  if x14 < r32 then
    ck (inb (((3 : Int32) * y13) + x14) 36) <|
    cl (fX11_says m31 (m31 365 (ix (((3 : Int32) * y13) + x14)))) <| fun _ m33 =>
    rec m33 (x14 + (1 : Int32))
  else
    k87 m31
def fX11_write_L58 (k87 : Mem → Option (Int32 × Mem)) (y12 : Int32) (y13 : Int32) : Nat → Mem → Int32 → Option (Int32 × Mem)
  | 0 => fun _ _ => none
  | n + 1 => fun m11 x14 => fX11_write_L58_b k87 y12 y13 (fX11_write_L58 k87 y12 y13 n) m11 x14
def fX11_write (m0 : Mem) (a1 : Int32) : Option (Int32 × Mem) :=
  cl (fX11_isWord m0 a1) <| fun r2 m1 =>
  if r2 = (0 : Int32) then
    cl (fX11_refuse m1 (-1001 : Int32)) <| fun r4 m3 =>
    some (r4, m3)
  else
    lt (sto m1 362 15 (0 : Int32)) <| fun m5 =>
    cl (fX11_meant m5 a1) <| fun r7 m6 =>
    if r7 < (0 : Int32) then
      lt (fun (v8 : Int32) =>
        cl (fX11_says m6 v8) <| fun _ m9 =>
        cl (fX11_saysNumber m9 a1) <| fun _ m10 =>
        some ((m10 362 15), m10)) <| fun j43 =>
      if r7 = (-1 : Int32) then
        j43 (63 : Int32)
      else
        j43 (33 : Int32)
    else
      fX11_write_L58
        (fun (m16 : Mem) =>
          fX11_write_L89
            (fun (m22 : Mem) =>
              some ((m22 362 15), m22))
            a1 r7 5000 m16 (0 : Int32))
        a1 r7 5000 m6 (0 : Int32)
def rmX11_written : Room := { frames := 1, cells := 0, slots := 0, locals := 25 }
def fX11_written (m0 : Mem) (a1 : Int32) : Option (Int32 × Mem) :=
  cl (fX11_isIn m0 ((a1).toInt64) (0 : Int64) ((((m0 362 15) - (1 : Int32))).toInt64)) <| fun r2 m1 =>
  if r2 = (0 : Int32) then
    some ((-1 : Int32), m1)
  else
    ck (inb a1 64) <|
    some ((m1 374 (ix a1)), m1)
def rmX11_readsField : Room := { frames := 3, cells := 0, slots := 0, locals := 70 }
def fX11_readsField_L53_b (k110 : Mem → Int32 → Option (Int32 × Mem)) (y9 : Int32) (y10 : Int32) (y11 : Int32) (y12 : Int32) (y13 : Int32) (rec : Mem → Int32 → Option (Int32 × Mem)) (m8 : Mem) (x14 : Int32) : Option (Int32 × Mem) :=
  if (m8 362 27) < (y13 + (3 : Int32)) then
    cl (fX11_byteAt m8 (m8 362 27)) <| fun r26 m25 =>
    cl (fX11_isDigit m25 r26) <| fun r28 m27 =>
    if r28 = (0 : Int32) then
      k110 m27 x14
    else
      cl (fX11_byteAt m27 (m27 362 27)) <| fun r30 m29 =>
      lt ((((10 : Int32) * x14) + r30) - (48 : Int32)) <| fun x31 =>
      lt (sto m29 362 27 ((m29 362 27) + (1 : Int32))) <| fun m32 =>
      rec m32 x31
  else
    k110 m8 x14
def fX11_readsField_L53 (k110 : Mem → Int32 → Option (Int32 × Mem)) (y9 : Int32) (y10 : Int32) (y11 : Int32) (y12 : Int32) (y13 : Int32) : Nat → Mem → Int32 → Option (Int32 × Mem)
  | 0 => fun _ _ => none
  | n + 1 => fun m8 x14 => fX11_readsField_L53_b k110 y9 y10 y11 y12 y13 (fX11_readsField_L53 k110 y9 y10 y11 y12 y13 n) m8 x14
def fX11_readsField (m0 : Mem) (a1 : Int32) (a2 : Int32) : Option (Int32 × Mem) :=
  lt (m0 362 27) <| fun x1 =>
  cl (fX11_byteAt m0 (m0 362 27)) <| fun r3 m2 =>
  lt (fun (v4 : Int32) =>
    lt (fun (v5 : Int32) =>
      lt (sto m2 362 27 ((m2 362 27) + v5)) <| fun m6 =>
      lt (m6 362 27) <| fun x7 =>
      fX11_readsField_L53
        (fun (m17 : Mem) (x18 : Int32) =>
          lt (fun (m19 : Mem) =>
            if v4 = (0 : Int32) then
              some (x18, m19)
            else
              some ((-x18), m19)) <| fun j157 =>
          if (m17 362 27) = x7 then
            cl (fX11_wrongAt m17 (m17 362 27)) <| fun _ m20 =>
            j157 m20
          else
            lt (fun (v21 : Int32) =>
              cl (fX11_canStand m17 a1 a2 v21) <| fun r23 m22 =>
              if r23 = (0 : Int32) then
                cl (fX11_wrongAt m22 x1) <| fun _ m24 =>
                j157 m24
              else
                j157 m22) <| fun j146 =>
            if v4 = (0 : Int32) then
              j146 x18
            else
              j146 (-x18))
        a1 a2 x1 v4 x7 5000 m6 (0 : Int32)) <| fun j40 =>
    if v4 = (0 : Int32) then
      j40 (0 : Int32)
    else
      j40 (1 : Int32)) <| fun j23 =>
  if r3 = (45 : Int32) then
    j23 (1 : Int32)
  else
    j23 (0 : Int32)
def rmX11_read : Room := { frames := 6, cells := 1, slots := 12, locals := 143 }
def fX11_read_L137_b (k232 : Mem → Int32 → Option (Int32 × Mem)) (y13 : Int32) (rec : Mem → Int32 → Int32 → Option (Int32 × Mem)) (m12 : Mem) (x14 : Int32) (x15 : Int32) : Option (Int32 × Mem) :=
  cl (fX11_fieldsOf m12 y13) <| fun r27 m26 =>
  if x15 < r27 then
    if (m26 362 30) < (0 : Int32) then
      cl (fX11_byteAt m26 (m26 362 27)) <| fun r29 m28 =>
      lt (fun (m30 : Mem) (x31 : Int32) =>
        rec m30 x31 (x15 + (1 : Int32))) <| fun j226 =>
      if r29 = (32 : Int32) then
        lt (sto m28 362 27 ((m28 362 27) + (1 : Int32))) <| fun m32 =>
        cl (fX11_fieldAt m32 y13 x15) <| fun r34 m33 =>
        cl (fX11_readsField m33 y13 r34) <| fun r36 m35 =>
        lt (fun (m37 : Mem) (v38 : Int32) =>
          j226 m37 v38) <| fun j225 =>
        if (m35 362 30) < (0 : Int32) then
          cl (fX11_fieldAt m35 y13 x15) <| fun r40 m39 =>
          cl (fX11_laidIn m39 y13 r40 x14 r36) <| fun r42 m41 =>
          j225 m41 r42
        else
          j225 m35 x14
      else
        cl (fX11_wrongAt m28 (m28 362 27)) <| fun _ m43 =>
        j226 m43 x14
    else
      k232 m26 x14
  else
    k232 m26 x14
def fX11_read_L137 (k232 : Mem → Int32 → Option (Int32 × Mem)) (y13 : Int32) : Nat → Mem → Int32 → Int32 → Option (Int32 × Mem)
  | 0 => fun _ _ _ => none
  | n + 1 => fun m12 x14 x15 => fX11_read_L137_b k232 y13 (fX11_read_L137 k232 y13 n) m12 x14 x15
def fX11_read_L23_b (k50 : Mem → Option (Int32 × Mem))  (rec : Mem → Option (Int32 × Mem)) (m5 : Mem) : Option (Int32 × Mem) :=
  cl (fX11_byteAt m5 (m5 362 27)) <| fun r49 m48 =>
  cl (fX11_isLetter m48 r49) <| fun r51 m50 =>
  if r51 = (0 : Int32) then
    k50 m50
  else
    lt (sto m50 362 27 ((m50 362 27) + (1 : Int32))) <| fun m52 =>
    rec m52
def fX11_read_L23 (k50 : Mem → Option (Int32 × Mem))  : Nat → Mem → Option (Int32 × Mem)
  | 0 => fun _ => none
  | n + 1 => fun m5 => fX11_read_L23_b k50  (fX11_read_L23 k50  n) m5
def fX11_read (m0 : Mem) : Option (Int32 × Mem) :=
  lt (sto m0 362 28 (m0 362 13)) <| fun m1 =>
  lt (sto m1 362 13 (0 : Int32)) <| fun m2 =>
  lt (sto m2 362 27 (0 : Int32)) <| fun m3 =>
  lt (sto m3 362 30 (-1 : Int32)) <| fun m4 =>
  fX11_read_L23
    (fun (m7 : Mem) =>
      lt (fun (m8 : Mem) (v9 : Int32) =>
        if v9 < (0 : Int32) then
          some (((-10 : Int32) - (m8 362 27)), m8)
        else
          cl (fX11_valueOf m8 v9) <| fun r11 m10 =>
          fX11_read_L137
            (fun (m18 : Mem) (x19 : Int32) =>
              lt (fun (m20 : Mem) =>
                lt (fun (m21 : Mem) =>
                  if (m21 362 30) < (0 : Int32) then
                    some (x19, m21)
                  else
                    some (((-10 : Int32) - (m21 362 30)), m21)) <| fun j284 =>
                if (m20 362 30) < (0 : Int32) then
                  cl (fX11_meant m20 x19) <| fun r23 m22 =>
                  if r23 = v9 then
                    j284 m22
                  else
                    cl (fX11_wrongAt m22 ((m22 362 28) + (1 : Int32))) <| fun _ m24 =>
                    j284 m24
                else
                  j284 m20) <| fun j258 =>
              if (m18 362 30) < (0 : Int32) then
                if (m18 362 27) < (m18 362 28) then
                  cl (fX11_wrongAt m18 (m18 362 27)) <| fun _ m25 =>
                  j258 m25
                else
                  j258 m18
              else
                j258 m18)
            v9 5000 m10 r11 (0 : Int32)) <| fun j116 =>
      lt (α := Option (Int32 × Mem)) (
        j116 m7 (-1 : Int32)) <| fun j66 =>
      if (m7 362 27) < (1 : Int32) then
        j66
      else
        if (3 : Int32) < (m7 362 27) then
          j66
        else
          ck (inb (0 : Int32) 200) <|
          lt (fun (v44 : Int32) =>
            lt (fun (v45 : Int32) =>
              cl (fX11_formNamed m7 (m7 373 (ix (0 : Int32))) v44 v45) <| fun r47 m46 =>
              j116 m46 r47) <| fun j113 =>
            if (2 : Int32) < (m7 362 27) then
              ck (inb (2 : Int32) 200) <|
              j113 (m7 373 (ix (2 : Int32)))
            else
              j113 (0 : Int32)) <| fun j95 =>
          if (1 : Int32) < (m7 362 27) then
            ck (inb (1 : Int32) 200) <|
            j95 (m7 373 (ix (1 : Int32)))
          else
            j95 (0 : Int32))
    5000 m4
def rmX11_put : Room := { frames := 1, cells := 0, slots := 0, locals := 21 }
def fX11_put (m0 : Mem) (a1 : Int32) (a2 : Int32) : Option (Int32 × Mem) :=
  cl (fX11_isCell m0 a1) <| fun r2 m1 =>
  lt (fun (m3 : Mem) =>
    cl (fX11_refuse m3 (-1001 : Int32)) <| fun r5 m4 =>
    some (r5, m4)) <| fun j14 =>
  if r2 = (0 : Int32) then
    j14 m1
  else
    cl (fX11_isWord m1 a2) <| fun r7 m6 =>
    if r7 = (0 : Int32) then
      j14 m6
    else
      cl (fX11_notes m6) <| fun _ m8 =>
      ck (inb ((8 : Int32) + a1) 73) <|
      lt (m8 375 (ix ((8 : Int32) + a1))) <| fun x9 =>
      ck (inb ((8 : Int32) + a1) 73) <|
      lt (sto m8 375 (ix ((8 : Int32) + a1)) a2) <| fun m10 =>
      some (x9, m10)
def rmX11_cell : Room := { frames := 1, cells := 0, slots := 0, locals := 21 }
def fX11_cell (m0 : Mem) (a1 : Int32) : Option (Int32 × Mem) :=
  cl (fX11_isCell m0 a1) <| fun r2 m1 =>
  if r2 = (0 : Int32) then
    cl (fX11_refuse m1 (-1001 : Int32)) <| fun r4 m3 =>
    some (r4, m3)
  else
    ck (inb ((8 : Int32) + a1) 73) <|
    some ((m1 375 (ix ((8 : Int32) + a1))), m1)
def rmX11_copy : Room := { frames := 1, cells := 0, slots := 0, locals := 21 }
def fX11_copy_L83_b (k114 : Mem → Option (Int32 × Mem)) (y17 : Int32) (y18 : Int32) (rec : Mem → Int32 → Option (Int32 × Mem)) (m16 : Mem) (x19 : Int32) : Option (Int32 × Mem) :=
  if x19 < y18 then
    ck (inb x19 32) <|
    ck (inb (((8 : Int32) + y17) + x19) 73) <|
    lt (sto m16 375 (ix (((8 : Int32) + y17) + x19)) (m16 383 (ix x19))) <| fun m22 =>
    rec m22 (x19 + (1 : Int32))
  else
    k114 m16
def fX11_copy_L83 (k114 : Mem → Option (Int32 × Mem)) (y17 : Int32) (y18 : Int32) : Nat → Mem → Int32 → Option (Int32 × Mem)
  | 0 => fun _ _ => none
  | n + 1 => fun m16 x19 => fX11_copy_L83_b k114 y17 y18 (fX11_copy_L83 k114 y17 y18 n) m16 x19
def fX11_copy_L49_b (k80 : Mem → Option (Int32 × Mem)) (y10 : Int32) (y11 : Int32) (y12 : Int32) (rec : Mem → Int32 → Option (Int32 × Mem)) (m9 : Mem) (x13 : Int32) : Option (Int32 × Mem) :=
  if x13 < y12 then
    ck (inb (((8 : Int32) + y10) + x13) 73) <|
    ck (inb x13 32) <|
    lt (sto m9 383 (ix x13) (m9 375 (ix (((8 : Int32) + y10) + x13)))) <| fun m23 =>
    rec m23 (x13 + (1 : Int32))
  else
    k80 m9
def fX11_copy_L49 (k80 : Mem → Option (Int32 × Mem)) (y10 : Int32) (y11 : Int32) (y12 : Int32) : Nat → Mem → Int32 → Option (Int32 × Mem)
  | 0 => fun _ _ => none
  | n + 1 => fun m9 x13 => fX11_copy_L49_b k80 y10 y11 y12 (fX11_copy_L49 k80 y10 y11 y12 n) m9 x13
def fX11_copy (m0 : Mem) (a1 : Int32) (a2 : Int32) (a3 : Int32) : Option (Int32 × Mem) :=
  cl (fX11_isCell m0 a1) <| fun r2 m1 =>
  lt (fun (m3 : Mem) =>
    cl (fX11_refuse m3 (-1001 : Int32)) <| fun r5 m4 =>
    some (r5, m4)) <| fun j34 =>
  if r2 = (0 : Int32) then
    j34 m1
  else
    cl (fX11_isCell m1 a2) <| fun r7 m6 =>
    if r7 = (0 : Int32) then
      j34 m6
    else
      if a3 < (0 : Int32) then
        j34 m6
      else
        if ((32 : Int32) - a1) < a3 then
          j34 m6
        else
          if ((32 : Int32) - a2) < a3 then
            j34 m6
          else
            cl (fX11_notes m6) <| fun _ m8 =>
            fX11_copy_L49
              (fun (m15 : Mem) =>
                fX11_copy_L83
                  (fun (m21 : Mem) =>
                    some (a3, m21))
                  a2 a3 5000 m15 (0 : Int32))
              a1 a2 a3 5000 m8 (0 : Int32)
def rmX11_holders : Room := { frames := 6, cells := 33, slots := 396, locals := 143 }
def fX11_holders_L22_b (k65 : Mem → Int32 → Option (Int32 × Mem)) (y6 : Int32) (rec : Mem → Int32 → Int32 → Option (Int32 × Mem)) (m5 : Mem) (x7 : Int32) (x8 : Int32) : Option (Int32 × Mem) :=
  if x8 < (32 : Int32) then
    ck (inb ((8 : Int32) + x8) 73) <|
    cl (fX11_meant m5 (m5 375 (ix ((8 : Int32) + x8)))) <| fun r14 m13 =>
    cl (fX11_asked m13 y6) <| fun r16 m15 =>
    lt (fun (v17 : Int32) =>
      lt (x7 ||| v17) <| fun x18 =>
      rec m15 x18 (x8 + (1 : Int32))) <| fun j57 =>
    if r14 = r16 then
      j57 ((1 : Int32) <<< (x8 &&& 31))
    else
      j57 (0 : Int32)
  else
    k65 m5 x7
def fX11_holders_L22 (k65 : Mem → Int32 → Option (Int32 × Mem)) (y6 : Int32) : Nat → Mem → Int32 → Int32 → Option (Int32 × Mem)
  | 0 => fun _ _ _ => none
  | n + 1 => fun m5 x7 x8 => fX11_holders_L22_b k65 y6 (fX11_holders_L22 k65 y6 n) m5 x7 x8
def fX11_holders (m0 : Mem) (a1 : Int32) : Option (Int32 × Mem) :=
  cl (fX11_asked m0 a1) <| fun r2 m1 =>
  if r2 = (-9 : Int32) then
    cl (fX11_refuse m1 (-1001 : Int32)) <| fun r4 m3 =>
    some (r4, m3)
  else
    fX11_holders_L22
      (fun (m11 : Mem) (x12 : Int32) =>
        some (x12, m11))
      a1 33 m1 (0 : Int32) (0 : Int32)
def rmX11_firstOf : Room := { frames := 6, cells := 1, slots := 12, locals := 143 }
def fX11_firstOf (m0 : Mem) (a1 : Int32) : Option (Int32 × Mem) :=
  cl (fX11_meant m0 a1) <| fun r2 m1 =>
  cl (fX11_fieldAt m1 r2 (0 : Int32)) <| fun r4 m3 =>
  if r4 < (0 : Int32) then
    some ((0 : Int32), m3)
  else
    cl (fX11_stands m3 r2 r4 a1) <| fun r6 m5 =>
    some (r6, m5)
def rmX11_costsOf : Room := { frames := 7, cells := 2, slots := 24, locals := 166 }
def fX11_costsOf (m0 : Mem) (a1 : Int32) : Option (Int32 × Mem) :=
  cl (fX11_meant m0 a1) <| fun r2 m1 =>
  if r2 < (0 : Int32) then
    some ((0 : Int32), m1)
  else
    cl (fX11_fieldsOf m1 r2) <| fun r4 m3 =>
    lt ((1 : Int32) + r4) <| fun x5 =>
    cl (fX11_firstOf m3 a1) <| fun r7 m6 =>
    ck (inb r2 12) <|
    if (m6 364 (ix r2)) = (1 : Int32) then
      some ((x5 + (2 : Int32)), m6)
    else
    if (m6 364 (ix r2)) = (2 : Int32) then
      some (((3 : Int32) * x5), m6)
    else
    if (m6 364 (ix r2)) = (3 : Int32) then
      some (((2 : Int32) * (x5 + (2 : Int32))), m6)
    else
    if (m6 364 (ix r2)) = (4 : Int32) then
      some ((((3 : Int32) * x5) - (1 : Int32)), m6)
    else
    if (m6 364 (ix r2)) = (5 : Int32) then
      some ((9 : Int32), m6)
    else
    if (m6 364 (ix r2)) = (6 : Int32) then
      if r7 < (0 : Int32) then
        some ((((2 : Int32) * (x5 + (2 : Int32))) + (-r7)), m6)
      else
        some ((((2 : Int32) * (x5 + (2 : Int32))) + r7), m6)
    else
      some (x5, m6)
def rmX11_round : Room := { frames := 0, cells := 0, slots := 0, locals := 0 }
def fX11_round (m0 : Mem) (a0 : Int32) : Option (Int32 × Mem) :=
  lt (a0 % (32 : Int32)) <| fun x1 =>
  if x1 < (0 : Int32) then
    some ((x1 + (32 : Int32)), m0)
  else
    some (x1, m0)
def rmX11_begins : Room := { frames := 0, cells := 0, slots := 0, locals := 0 }
def fX11_begins (m0 : Mem) (a1 : Int32) : Option (Unit × Mem) :=
  lt (sto m0 362 36 a1) <| fun m1 =>
  lt (sto m1 362 37 (0 : Int32)) <| fun m2 =>
  some ((), m2)
def rmX11_keeps : Room := { frames := 0, cells := 0, slots := 0, locals := 0 }
def fX11_keeps_L10_b (k35 : Mem → Option (Unit × Mem)) (y5 : Int32) (rec : Mem → Int32 → Option (Unit × Mem)) (m4 : Mem) (x6 : Int32) : Option (Unit × Mem) :=
  if x6 < (3 : Int32) then
    ck (inb (x6 + (1 : Int32)) 4) <|
    ck (inb x6 4) <|
    lt (sto m4 384 (ix x6) (m4 384 (ix (x6 + (1 : Int32))))) <| fun m10 =>
    rec m10 (x6 + (1 : Int32))
  else
    k35 m4
def fX11_keeps_L10 (k35 : Mem → Option (Unit × Mem)) (y5 : Int32) : Nat → Mem → Int32 → Option (Unit × Mem)
  | 0 => fun _ _ => none
  | n + 1 => fun m4 x6 => fX11_keeps_L10_b k35 y5 (fX11_keeps_L10 k35 y5 n) m4 x6
def fX11_keeps (m0 : Mem) (a1 : Int32) : Option (Unit × Mem) :=
  lt (fun (m1 : Mem) =>
    ck (inb (m1 362 37) 4) <|
    lt (sto m1 384 (ix (m1 362 37)) a1) <| fun m2 =>
    lt (sto m2 362 37 ((m2 362 37) + (1 : Int32))) <| fun m3 =>
    some ((), m3)) <| fun j45 =>
  if (m0 362 37) = (4 : Int32) then
    fX11_keeps_L10
      (fun (m8 : Mem) =>
        lt (sto m8 362 37 ((m8 362 37) - (1 : Int32))) <| fun m9 =>
        j45 m9)
      a1 5000 m0 (0 : Int32)
  else
    j45 m0
def rmX11_steps : Room := { frames := 7, cells := 2, slots := 24, locals := 166 }
def fX11_steps (m0 : Mem) : Option (Int32 × Mem) :=
  ck (inb ((8 : Int32) + (m0 362 36)) 73) <|
  lt (m0 375 (ix ((8 : Int32) + (m0 362 36)))) <| fun x1 =>
  cl (fX11_meant m0 x1) <| fun r3 m2 =>
  if r3 < (0 : Int32) then
    some ((0 : Int32), m2)
  else
    ck (inb r3 12) <|
    lt (α := Option (Int32 × Mem)) (
      cl (fX11_firstOf m2 x1) <| fun r5 m4 =>
      ck (inb r3 12) <|
      lt (m4 364 (ix r3)) <| fun x6 =>
      if x6 = (5 : Int32) then
        lt (sto m4 362 37 ((m4 362 37) - (1 : Int32))) <| fun m7 =>
        ck (inb (m7 362 37) 4) <|
        lt (sto m7 362 36 (m7 384 (ix (m7 362 37)))) <| fun m8 =>
        some ((1 : Int32), m8)
      else
        lt (α := Option (Int32 × Mem)) (
          lt (fun (m9 : Mem) =>
            cl (fX11_round m9 ((m9 362 36) + r5)) <| fun r11 m10 =>
            lt (sto m10 362 36 r11) <| fun m12 =>
            some ((1 : Int32), m12)) <| fun j132 =>
          if x6 = (1 : Int32) then
            j132 m4
          else
            cl (fX11_round m4 ((m4 362 36) + (1 : Int32))) <| fun r14 m13 =>
            cl (fX11_keeps m13 r14) <| fun _ m15 =>
            j132 m15) <| fun j113 =>
        if x6 = (1 : Int32) then
          j113
        else
          if x6 = (3 : Int32) then
            j113
          else
            lt (α := Option (Int32 × Mem)) (
              cl (fX11_round m4 ((m4 362 36) + (1 : Int32))) <| fun r17 m16 =>
              lt (sto m16 362 36 r17) <| fun m18 =>
              some ((1 : Int32), m18)) <| fun j148 =>
            if x6 = (6 : Int32) then
              if (r5 % (2 : Int32)) = (0 : Int32) then
                j113
              else
                j148
            else
              j148) <| fun j42 =>
    if (m2 364 (ix r3)) = (5 : Int32) then
      if (m2 362 37) = (0 : Int32) then
        some ((0 : Int32), m2)
      else
        j42
    else
      j42
def rmX11_walk : Room := { frames := 8, cells := 804, slots := 9648, locals := 190 }
def fX11_walk_L56_b (k143 : Mem → Int32 → Int32 → Int32 → Option (Int32 × Mem)) (y12 : Int32) (y13 : Int32) (rec : Mem → Int32 → Int32 → Int32 → Int32 → Option (Int32 × Mem)) (m11 : Mem) (x14 : Int32) (x15 : Int32) (x16 : Int32) (x17 : Int32) : Option (Int32 × Mem) :=
  if x17 = (0 : Int32) then
    k143 m11 x14 x15 x16
  else
    if x14 < y12 then
      lt (m11 362 36) <| fun x26 =>
      cl (fX11_steps m11) <| fun r28 m27 =>
      lt (fun (v29 : Int32) =>
        lt (x14 + v29) <| fun x30 =>
        lt (fun (m31 : Mem) (v32 : Int32) =>
          lt (x15 + v32) <| fun x33 =>
          lt (fun (v34 : Int32) =>
            lt (x16 ||| v34) <| fun x35 =>
            rec m31 x30 x33 x35 r28) <| fun j137 =>
          if r28 = (0 : Int32) then
            j137 (0 : Int32)
          else
            j137 ((1 : Int32) <<< (x26 &&& 31))) <| fun j119 =>
        if r28 = (0 : Int32) then
          j119 m27 (0 : Int32)
        else
          ck (inb ((8 : Int32) + x26) 73) <|
          cl (fX11_costsOf m27 (m27 375 (ix ((8 : Int32) + x26)))) <| fun r37 m36 =>
          j119 m36 r37) <| fun j91 =>
      if r28 = (0 : Int32) then
        j91 (0 : Int32)
      else
        j91 (1 : Int32)
    else
      k143 m11 x14 x15 x16
def fX11_walk_L56 (k143 : Mem → Int32 → Int32 → Int32 → Option (Int32 × Mem)) (y12 : Int32) (y13 : Int32) : Nat → Mem → Int32 → Int32 → Int32 → Int32 → Option (Int32 × Mem)
  | 0 => fun _ _ _ _ _ => none
  | n + 1 => fun m11 x14 x15 x16 x17 => fX11_walk_L56_b k143 y12 y13 (fX11_walk_L56 k143 y12 y13 n) m11 x14 x15 x16 x17
def fX11_walk (m0 : Mem) (a1 : Int32) (a2 : Int32) (a3 : Int32) : Option (Int32 × Mem) :=
  cl (fX11_isCell m0 a1) <| fun r2 m1 =>
  lt (fun (m3 : Mem) =>
    cl (fX11_refuse m3 (-1001 : Int32)) <| fun r5 m4 =>
    some (r5, m4)) <| fun j31 =>
  if r2 = (0 : Int32) then
    j31 m1
  else
    cl (fX11_isIn m1 ((a2).toInt64) (0 : Int64) (200 : Int64)) <| fun r7 m6 =>
    if r7 = (0 : Int32) then
      j31 m6
    else
      cl (fX11_isIn m6 ((a3).toInt64) (0 : Int64) (4 : Int64)) <| fun r9 m8 =>
      if r9 = (0 : Int32) then
        j31 m8
      else
        cl (fX11_begins m8 a1) <| fun _ m10 =>
        fX11_walk_L56
          (fun (m22 : Mem) (x23 : Int32) (x24 : Int32) (x25 : Int32) =>
            if a3 = (0 : Int32) then
              some ((m22 362 36), m22)
            else
              if a3 = (1 : Int32) then
                some (x23, m22)
              else
                if a3 = (2 : Int32) then
                  some (x24, m22)
                else
                  if a3 = (3 : Int32) then
                    some ((m22 362 37), m22)
                  else
                    some (x25, m22))
          a2 a3 201 m10 (0 : Int32) (0 : Int32) (0 : Int32) (1 : Int32)
def rmX11_halts : Room := { frames := 8, cells := 404, slots := 4848, locals := 190 }
def fX11_halts_L22_b (k36 : Mem → Int32 → Option (Int32 × Mem)) (k44 : Mem → Option (Int32 × Mem))  (rec : Mem → Int32 → Option (Int32 × Mem)) (m6 : Mem) (x7 : Int32) : Option (Int32 × Mem) :=
  if (200 : Int32) < x7 then
    k44 m6
  else
    cl (fX11_steps m6) <| fun r15 m14 =>
    if r15 = (0 : Int32) then
      k36 m14 x7
    else
      rec m14 (x7 + (1 : Int32))
def fX11_halts_L22 (k36 : Mem → Int32 → Option (Int32 × Mem)) (k44 : Mem → Option (Int32 × Mem))  : Nat → Mem → Int32 → Option (Int32 × Mem)
  | 0 => fun _ _ => none
  | n + 1 => fun m6 x7 => fX11_halts_L22_b k36 k44  (fX11_halts_L22 k36 k44  n) m6 x7
def fX11_halts (m0 : Mem) (a1 : Int32) : Option (Int32 × Mem) :=
  cl (fX11_isCell m0 a1) <| fun r2 m1 =>
  if r2 = (0 : Int32) then
    cl (fX11_refuse m1 (-1001 : Int32)) <| fun r4 m3 =>
    some (r4, m3)
  else
    cl (fX11_begins m1 a1) <| fun _ m5 =>
    fX11_halts_L22
      (fun (m10 : Mem) (x11 : Int32) =>
        some (x11, m10))
      (fun (m13 : Mem) =>
        some ((-1 : Int32), m13))
      202 m5 (0 : Int32)
def rmX11_placeMet : Room := { frames := 0, cells := 0, slots := 0, locals := 0 }
def fX11_placeMet_L4_b (k40 : Int32 → Option (Int32 × Mem)) (m1 : Mem) (y2 : Int32) (rec : Int32 → Int32 → Option (Int32 × Mem)) (x3 : Int32) (x4 : Int32) : Option (Int32 × Mem) :=
  ck (inb (72 : Int32) 73) <|
  if x4 < (m1 375 (ix (72 : Int32))) then
    ck (inb ((40 : Int32) + x4) 73) <|
    lt (fun (v7 : Int32) =>
      rec v7 (x4 + (1 : Int32))) <| fun j33 =>
    if (m1 375 (ix ((40 : Int32) + x4))) = y2 then
      j33 x4
    else
      j33 x3
  else
    k40 x3
def fX11_placeMet_L4 (k40 : Int32 → Option (Int32 × Mem)) (m1 : Mem) (y2 : Int32) : Nat → Int32 → Int32 → Option (Int32 × Mem)
  | 0 => fun _ _ => none
  | n + 1 => fun x3 x4 => fX11_placeMet_L4_b k40 m1 y2 (fX11_placeMet_L4 k40 m1 y2 n) x3 x4
def fX11_placeMet (m0 : Mem) (a1 : Int32) : Option (Int32 × Mem) :=
  fX11_placeMet_L4
    (fun (x6 : Int32) =>
      some (x6, m0))
    m0 a1 5000 (-1 : Int32) (0 : Int32)
def rmX11_meets : Room := { frames := 1, cells := 0, slots := 0, locals := 23 }
def fX11_meets_L23_b (k55 : Mem → Option (Unit × Mem)) (y7 : Int32) (rec : Mem → Int32 → Option (Unit × Mem)) (m6 : Mem) (x8 : Int32) : Option (Unit × Mem) :=
  if x8 < (31 : Int32) then
    ck (inb (((40 : Int32) + x8) + (1 : Int32)) 73) <|
    ck (inb ((40 : Int32) + x8) 73) <|
    lt (sto m6 375 (ix ((40 : Int32) + x8)) (m6 375 (ix (((40 : Int32) + x8) + (1 : Int32))))) <| fun m12 =>
    rec m12 (x8 + (1 : Int32))
  else
    k55 m6
def fX11_meets_L23 (k55 : Mem → Option (Unit × Mem)) (y7 : Int32) : Nat → Mem → Int32 → Option (Unit × Mem)
  | 0 => fun _ _ => none
  | n + 1 => fun m6 x8 => fX11_meets_L23_b k55 y7 (fX11_meets_L23 k55 y7 n) m6 x8
def fX11_meets (m0 : Mem) (a1 : Int32) : Option (Unit × Mem) :=
  cl (fX11_placeMet m0 a1) <| fun r2 m1 =>
  if r2 < (0 : Int32) then
    ck (inb (72 : Int32) 73) <|
    lt (fun (m3 : Mem) =>
      ck (inb (72 : Int32) 73) <|
      ck (inb ((40 : Int32) + (m3 375 (ix (72 : Int32)))) 73) <|
      lt (sto m3 375 (ix ((40 : Int32) + (m3 375 (ix (72 : Int32))))) a1) <| fun m4 =>
      ck (inb (72 : Int32) 73) <|
      ck (inb (72 : Int32) 73) <|
      lt (sto m4 375 (ix (72 : Int32)) ((m4 375 (ix (72 : Int32))) + (1 : Int32))) <| fun m5 =>
      some ((), m5)) <| fun j66 =>
    if (m1 375 (ix (72 : Int32))) = (32 : Int32) then
      fX11_meets_L23
        (fun (m10 : Mem) =>
          ck (inb (72 : Int32) 73) <|
          ck (inb (72 : Int32) 73) <|
          lt (sto m10 375 (ix (72 : Int32)) ((m10 375 (ix (72 : Int32))) - (1 : Int32))) <| fun m11 =>
          j66 m11)
        a1 5000 m1 (0 : Int32)
    else
      j66 m1
  else
    some ((), m1)
def rmX11_run : Room := { frames := 8, cells := 402, slots := 4824, locals := 190 }
def fX11_run_L41_b (k86 : Mem → Option (Int32 × Mem)) (y11 : Int32) (rec : Mem → Int32 → Int32 → Option (Int32 × Mem)) (m10 : Mem) (x12 : Int32) (x13 : Int32) : Option (Int32 × Mem) :=
  if x13 < y11 then
    if x12 = (0 : Int32) then
      k86 m10
    else
      ck (inb ((8 : Int32) + (m10 362 36)) 73) <|
      lt (m10 375 (ix ((8 : Int32) + (m10 362 36)))) <| fun x16 =>
      cl (fX11_steps m10) <| fun r18 m17 =>
      lt (fun (m19 : Mem) =>
        rec m19 r18 (x13 + (1 : Int32))) <| fun j80 =>
      if r18 = (0 : Int32) then
        j80 m17
      else
        cl (fX11_meets m17 x16) <| fun _ m20 =>
        j80 m20
  else
    k86 m10
def fX11_run_L41 (k86 : Mem → Option (Int32 × Mem)) (y11 : Int32) : Nat → Mem → Int32 → Int32 → Option (Int32 × Mem)
  | 0 => fun _ _ _ => none
  | n + 1 => fun m10 x12 x13 => fX11_run_L41_b k86 y11 (fX11_run_L41 k86 y11 n) m10 x12 x13
def fX11_run (m0 : Mem) (a1 : Int32) (a2 : Int32) : Option (Int32 × Mem) :=
  cl (fX11_isCell m0 a1) <| fun r2 m1 =>
  lt (fun (m3 : Mem) =>
    cl (fX11_refuse m3 (-1001 : Int32)) <| fun r5 m4 =>
    some (r5, m4)) <| fun j19 =>
  if r2 = (0 : Int32) then
    j19 m1
  else
    cl (fX11_isIn m1 ((a2).toInt64) (1 : Int64) (200 : Int64)) <| fun r7 m6 =>
    if r7 = (0 : Int32) then
      j19 m6
    else
      cl (fX11_notes m6) <| fun _ m8 =>
      cl (fX11_begins m8 a1) <| fun _ m9 =>
      fX11_run_L41
        (fun (m15 : Mem) =>
          ck (inb (72 : Int32) 73) <|
          some ((m15 375 (ix (72 : Int32))), m15))
        a2 201 m9 (1 : Int32) (0 : Int32)
def rmX11_met : Room := { frames := 1, cells := 0, slots := 0, locals := 23 }
def fX11_met (m0 : Mem) (a1 : Int32) : Option (Int32 × Mem) :=
  cl (fX11_isWord m0 a1) <| fun r2 m1 =>
  if r2 = (0 : Int32) then
    cl (fX11_refuse m1 (-1001 : Int32)) <| fun r4 m3 =>
    some (r4, m3)
  else
    cl (fX11_placeMet m1 a1) <| fun r6 m5 =>
    if r6 < (0 : Int32) then
      some ((0 : Int32), m5)
    else
      some ((1 : Int32), m5)
def rmX11_order : Room := { frames := 1, cells := 0, slots := 0, locals := 25 }
def fX11_order (m0 : Mem) (a1 : Int32) : Option (Int32 × Mem) :=
  ck (inb (72 : Int32) 73) <|
  cl (fX11_isIn m0 ((a1).toInt64) (0 : Int64) ((((m0 375 (ix (72 : Int32))) - (1 : Int32))).toInt64)) <| fun r2 m1 =>
  if r2 = (0 : Int32) then
    some ((-1 : Int32), m1)
  else
    ck (inb ((40 : Int32) + a1) 73) <|
    some ((m1 375 (ix ((40 : Int32) + a1))), m1)
def rmX11_costs : Room := { frames := 8, cells := 2, slots := 24, locals := 190 }
def fX11_costs (m0 : Mem) (a1 : Int32) : Option (Int32 × Mem) :=
  cl (fX11_isWord m0 a1) <| fun r2 m1 =>
  if r2 = (0 : Int32) then
    cl (fX11_refuse m1 (-1001 : Int32)) <| fun r4 m3 =>
    some (r4, m3)
  else
    cl (fX11_costsOf m1 a1) <| fun r6 m5 =>
    some (r6, m5)
def rmX11_move : Room := { frames := 0, cells := 0, slots := 0, locals := 0 }
def fX11_move_L2_b (k20 : Mem → Option (Unit × Mem)) (q2 : Nat) (q3 : Nat) (rec : Mem → Int32 → Option (Unit × Mem)) (m1 : Mem) (x4 : Int32) : Option (Unit × Mem) :=
  if x4 < (Int32.ofNat (al q2)) then
    ck (inb x4 (al q2)) <|
    ck (inb x4 (al q3)) <|
    lt (sto m1 q3 (ix x4) (m1 q2 (ix x4))) <| fun m7 =>
    rec m7 (x4 + (1 : Int32))
  else
    k20 m1
def fX11_move_L2 (k20 : Mem → Option (Unit × Mem)) (q2 : Nat) (q3 : Nat) : Nat → Mem → Int32 → Option (Unit × Mem)
  | 0 => fun _ _ => none
  | n + 1 => fun m1 x4 => fX11_move_L2_b k20 q2 q3 (fX11_move_L2 k20 q2 q3 n) m1 x4
def fX11_move (m0 : Mem) (a0 : Nat) (a1 : Nat) : Option (Unit × Mem) :=
  fX11_move_L2
    (fun (m6 : Mem) =>
      some ((), m6))
    a0 a1 5000 m0 (0 : Int32)
def rmX11_image : Room := { frames := 1, cells := 0, slots := 0, locals := 22 }
def fX11_image (m0 : Mem) : Option (Int32 × Mem) :=
  cl (fX11_move m0 375 377) <| fun _ m1 =>
  cl (fX11_move m1 364 378) <| fun _ m2 =>
  cl (fX11_move m2 365 379) <| fun _ m3 =>
  cl (fX11_move m3 366 380) <| fun _ m4 =>
  cl (fX11_move m4 367 381) <| fun _ m5 =>
  cl (fX11_move m5 368 382) <| fun _ m6 =>
  lt (sto m6 362 25 (m6 362 8)) <| fun m7 =>
  lt (sto m7 362 26 (1 : Int32)) <| fun m8 =>
  some ((m8 362 8), m8)
def rmX11_back : Room := { frames := 3, cells := 0, slots := 0, locals := 67 }
def fX11_back (m0 : Mem) : Option (Int32 × Mem) :=
  if (m0 362 26) = (0 : Int32) then
    cl (fX11_refuse m0 (-1003 : Int32)) <| fun r2 m1 =>
    some (r2, m1)
  else
    cl (fX11_move m0 377 375) <| fun _ m3 =>
    cl (fX11_move m3 378 364) <| fun _ m4 =>
    cl (fX11_move m4 379 365) <| fun _ m5 =>
    cl (fX11_move m5 380 366) <| fun _ m6 =>
    cl (fX11_move m6 381 367) <| fun _ m7 =>
    cl (fX11_move m7 382 368) <| fun _ m8 =>
    cl (fX11_newForms m8 (m8 362 25)) <| fun _ m9 =>
    some ((m9 362 8), m9)
def rmX11_count : Room := { frames := 1, cells := 0, slots := 0, locals := 21 }
def fX11_count (m0 : Mem) (a1 : Int32) : Option (Int32 × Mem) :=
  if a1 = (0 : Int32) then
    some ((m0 362 8), m0)
  else
  if a1 = (1 : Int32) then
    some ((m0 362 13), m0)
  else
  if a1 = (2 : Int32) then
    some ((m0 362 15), m0)
  else
  if a1 = (3 : Int32) then
    some ((m0 362 18), m0)
  else
  if a1 = (4 : Int32) then
    ck (inb (72 : Int32) 73) <|
    some ((m0 375 (ix (72 : Int32))), m0)
  else
    cl (fX11_refuse m0 (-1001 : Int32)) <| fun r7 m6 =>
    some (r7, m6)
def rmX11_refused : Room := { frames := 1, cells := 0, slots := 0, locals := 25 }
def fX11_refused (m0 : Mem) (a1 : Int32) : Option (Int32 × Mem) :=
  cl (fX11_isIn m0 ((a1).toInt64) (0 : Int64) (2 : Int64)) <| fun r2 m1 =>
  if r2 = (0 : Int32) then
    cl (fX11_refuse m1 (-1001 : Int32)) <| fun r4 m3 =>
    some (r4, m3)
  else
    ck (inb a1 3) <|
    some ((m1 363 (ix a1)), m1)
