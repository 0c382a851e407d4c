def rmX11_isIn : Room := { frames := 0, cells := 0, slots := 0, locals := 0 }
def fX11_isIn (m0 : Mem) (a0 : Int64) (a2 : Int64) (a4 : Int64) : Option (Int32 × Mem) :=
  if (lg_cmp a0 a2) < (0 : Int32) then
    some ((0 : Int32), m0)
  else
    if (0 : Int32) < (lg_cmp a0 a4) then
      some ((0 : Int32), m0)
    else
      some ((1 : Int32), m0)
def rmX11_refuse : Room := { frames := 0, cells := 0, slots := 0, locals := 0 }
def fX11_refuse (m0 : Mem) (a1 : Int32) : Option (Int32 × Mem) :=
  ck (inb ((-1001 : Int32) - a1) 3) <|
  ck (inb ((-1001 : Int32) - a1) 3) <|
  lt (sto m0 363 (ix ((-1001 : Int32) - a1)) ((m0 363 (ix ((-1001 : Int32) - a1))) + (1 : Int32))) <| fun m1 =>
  some (a1, m1)
def rmX11_isWord : Room := { frames := 0, cells := 0, slots := 0, locals := 0 }
def fX11_isWord (m0 : Mem) (a0 : Int32) : Option (Int32 × Mem) :=
  if a0 < (0 : Int32) then
    some ((0 : Int32), m0)
  else
    if a0 < (4096 : Int32) then
      some ((1 : Int32), m0)
    else
      some ((0 : Int32), m0)
def rmX11_isForm : Room := { frames := 0, cells := 0, slots := 0, locals := 0 }
def fX11_isForm (m0 : Mem) (a1 : Int32) : Option (Int32 × Mem) :=
  if a1 < (0 : Int32) then
    some ((0 : Int32), m0)
  else
    if a1 < (m0 362 8) then
      some ((1 : Int32), m0)
    else
      some ((0 : Int32), m0)
def rmX11_isCell : Room := { frames := 0, cells := 0, slots := 0, locals := 0 }
def fX11_isCell (m0 : Mem) (a0 : Int32) : Option (Int32 × Mem) :=
  if a0 < (0 : Int32) then
    some ((0 : Int32), m0)
  else
    if a0 < (32 : Int32) then
      some ((1 : Int32), m0)
    else
      some ((0 : Int32), m0)
def rmX11_has : Room := { frames := 0, cells := 0, slots := 0, locals := 0 }
def fX11_has (m0 : Mem) (a0 : Int32) (a1 : Int32) : Option (Int32 × Mem) :=
  if ((iushr a0 a1) &&& (1 : Int32)) = (1 : Int32) then
    some ((1 : Int32), m0)
  else
    some ((0 : Int32), m0)
def rmX11_size : Room := { frames := 0, cells := 0, slots := 0, locals := 0 }
def fX11_size_L4_b (k24 : Int32 → Option (Int32 × Mem)) (m1 : Mem) (y2 : Int32) (rec : Int32 → Int32 → Option (Int32 × Mem)) (x3 : Int32) (x4 : Int32) : Option (Int32 × Mem) :=
  if x4 < (32 : Int32) then
    lt (x3 + ((iushr y2 x4) &&& (1 : Int32))) <| fun x7 =>
    rec x7 (x4 + (1 : Int32))
  else
    k24 x3
def fX11_size_L4 (k24 : Int32 → Option (Int32 × Mem)) (m1 : Mem) (y2 : Int32) : Nat → Int32 → Int32 → Option (Int32 × Mem)
  | 0 => fun _ _ => none
  | n + 1 => fun x3 x4 => fX11_size_L4_b k24 m1 y2 (fX11_size_L4 k24 m1 y2 n) x3 x4
def fX11_size (m0 : Mem) (a0 : Int32) : Option (Int32 × Mem) :=
  fX11_size_L4
    (fun (x6 : Int32) =>
      some (x6, m0))
    m0 a0 5000 (0 : Int32) (0 : Int32)
def rmX11_signAt : Room := { frames := 0, cells := 0, slots := 0, locals := 0 }
def fX11_signAt (m0 : Mem) (a1 : Int32) (a2 : Int32) : Option (Int32 × Mem) :=
  ck (inb ((((12 : Int32) * a1) + (11 : Int32)) - a2) 144) <|
  some ((m0 366 (ix ((((12 : Int32) * a1) + (11 : Int32)) - a2))), m0)
def rmX11_maskOf : Room := { frames := 0, cells := 0, slots := 0, locals := 0 }
def fX11_maskOf (m0 : Mem) (a1 : Int32) : Option (Int32 × Mem) :=
  ck (inb a1 12) <|
  some ((m0 369 (ix a1)), m0)
def rmX11_valueOf : Room := { frames := 0, cells := 0, slots := 0, locals := 0 }
def fX11_valueOf (m0 : Mem) (a1 : Int32) : Option (Int32 × Mem) :=
  ck (inb a1 12) <|
  some ((m0 370 (ix a1)), m0)
def rmX11_fixedIn : Room := { frames := 1, cells := 0, slots := 0, locals := 22 }
def fX11_fixedIn_L4_b (k48 : Mem → Int32 → Option (Int32 × Mem)) (y2 : Int32) (rec : Mem → Int32 → Int32 → Option (Int32 × Mem)) (m1 : Mem) (x3 : Int32) (x4 : Int32) : Option (Int32 × Mem) :=
  if x4 < (12 : Int32) then
    cl (fX11_signAt m1 y2 x4) <| fun r10 m9 =>
    lt (fun (m11 : Mem) (v12 : Int32) =>
      lt (x3 ||| v12) <| fun x13 =>
      rec m11 x13 (x4 + (1 : Int32))) <| fun j40 =>
    lt (fun (m14 : Mem) =>
      j40 m14 ((1 : Int32) <<< (x4 &&& 31))) <| fun j33 =>
    if r10 = (48 : Int32) then
      j33 m9
    else
      cl (fX11_signAt m9 y2 x4) <| fun r16 m15 =>
      if r16 = (49 : Int32) then
        j33 m15
      else
        j40 m15 (0 : Int32)
  else
    k48 m1 x3
def fX11_fixedIn_L4 (k48 : Mem → Int32 → Option (Int32 × Mem)) (y2 : Int32) : Nat → Mem → Int32 → Int32 → Option (Int32 × Mem)
  | 0 => fun _ _ _ => none
  | n + 1 => fun m1 x3 x4 => fX11_fixedIn_L4_b k48 y2 (fX11_fixedIn_L4 k48 y2 n) m1 x3 x4
def fX11_fixedIn (m0 : Mem) (a1 : Int32) : Option (Int32 × Mem) :=
  fX11_fixedIn_L4
    (fun (m7 : Mem) (x8 : Int32) =>
      some (x8, m7))
    a1 5000 m0 (0 : Int32) (0 : Int32)
def rmX11_onesIn : Room := { frames := 1, cells := 0, slots := 0, locals := 22 }
def fX11_onesIn_L4_b (k37 : Mem → Int32 → Option (Int32 × Mem)) (y2 : Int32) (rec : Mem → Int32 → Int32 → Option (Int32 × Mem)) (m1 : Mem) (x3 : Int32) (x4 : Int32) : Option (Int32 × Mem) :=
  if x4 < (12 : Int32) then
    cl (fX11_signAt m1 y2 x4) <| fun r10 m9 =>
    lt (fun (v11 : Int32) =>
      lt (x3 ||| v11) <| fun x12 =>
      rec m9 x12 (x4 + (1 : Int32))) <| fun j29 =>
    if r10 = (49 : Int32) then
      j29 ((1 : Int32) <<< (x4 &&& 31))
    else
      j29 (0 : Int32)
  else
    k37 m1 x3
def fX11_onesIn_L4 (k37 : Mem → Int32 → Option (Int32 × Mem)) (y2 : Int32) : Nat → Mem → Int32 → Int32 → Option (Int32 × Mem)
  | 0 => fun _ _ _ => none
  | n + 1 => fun m1 x3 x4 => fX11_onesIn_L4_b k37 y2 (fX11_onesIn_L4 k37 y2 n) m1 x3 x4
def fX11_onesIn (m0 : Mem) (a1 : Int32) : Option (Int32 × Mem) :=
  fX11_onesIn_L4
    (fun (m7 : Mem) (x8 : Int32) =>
      some (x8, m7))
    a1 5000 m0 (0 : Int32) (0 : Int32)
def rmX11_bitsOf : Room := { frames := 1, cells := 0, slots := 0, locals := 22 }
def fX11_bitsOf_L5_b (k44 : Mem → Int32 → Option (Int32 × Mem)) (y2 : Int32) (y3 : Int32) (rec : Mem → Int32 → Int32 → Option (Int32 × Mem)) (m1 : Mem) (x4 : Int32) (x5 : Int32) : Option (Int32 × Mem) :=
  if x5 < (12 : Int32) then
    cl (fX11_signAt m1 y2 x5) <| fun r11 m10 =>
    ck (inb y3 8) <|
    lt (fun (v12 : Int32) =>
      lt (x4 ||| v12) <| fun x13 =>
      rec m10 x13 (x5 + (1 : Int32))) <| fun j36 =>
    if r11 = (sV 3 (ix y3)) then
      j36 ((1 : Int32) <<< (x5 &&& 31))
    else
      j36 (0 : Int32)
  else
    k44 m1 x4
def fX11_bitsOf_L5 (k44 : Mem → Int32 → Option (Int32 × Mem)) (y2 : Int32) (y3 : Int32) : Nat → Mem → Int32 → Int32 → Option (Int32 × Mem)
  | 0 => fun _ _ _ => none
  | n + 1 => fun m1 x4 x5 => fX11_bitsOf_L5_b k44 y2 y3 (fX11_bitsOf_L5 k44 y2 y3 n) m1 x4 x5
def fX11_bitsOf (m0 : Mem) (a1 : Int32) (a2 : Int32) : Option (Int32 × Mem) :=
  fX11_bitsOf_L5
    (fun (m8 : Mem) (x9 : Int32) =>
      some (x9, m8))
    a1 a2 5000 m0 (0 : Int32) (0 : Int32)
def rmX11_isField : Room := { frames := 2, cells := 0, slots := 0, locals := 46 }
def fX11_isField (m0 : Mem) (a1 : Int32) (a2 : Int32) : Option (Int32 × Mem) :=
  cl (fX11_isIn m0 ((a2).toInt64) (0 : Int64) (7 : Int64)) <| fun r2 m1 =>
  if r2 = (0 : Int32) then
    some ((0 : Int32), m1)
  else
    cl (fX11_bitsOf m1 a1 a2) <| fun r4 m3 =>
    if r4 = (0 : Int32) then
      some ((0 : Int32), m3)
    else
      some ((1 : Int32), m3)
def rmX11_letterOf : Room := { frames := 0, cells := 0, slots := 0, locals := 0 }
def fX11_letterOf_L4_b (k31 : Int32 → Option (Int32 × Mem)) (m1 : Mem) (y2 : Int32) (rec : Int32 → Int32 → Option (Int32 × Mem)) (x3 : Int32) (x4 : Int32) : Option (Int32 × Mem) :=
  if x4 < (8 : Int32) then
    ck (inb x4 8) <|
    lt (fun (v7 : Int32) =>
      rec v7 (x4 + (1 : Int32))) <| fun j24 =>
    if (sV 3 (ix x4)) = y2 then
      j24 x4
    else
      j24 x3
  else
    k31 x3
def fX11_letterOf_L4 (k31 : Int32 → Option (Int32 × Mem)) (m1 : Mem) (y2 : Int32) : Nat → Int32 → Int32 → Option (Int32 × Mem)
  | 0 => fun _ _ => none
  | n + 1 => fun x3 x4 => fX11_letterOf_L4_b k31 m1 y2 (fX11_letterOf_L4 k31 m1 y2 n) x3 x4
def fX11_letterOf (m0 : Mem) (a0 : Int32) : Option (Int32 × Mem) :=
  fX11_letterOf_L4
    (fun (x6 : Int32) =>
      some (x6, m0))
    m0 a0 5000 (-1 : Int32) (0 : Int32)
def rmX11_fieldsOf : Room := { frames := 2, cells := 0, slots := 0, locals := 46 }
def fX11_fieldsOf_L4_b (k33 : Mem → Int32 → Option (Int32 × Mem)) (y2 : Int32) (rec : Mem → Int32 → Int32 → Option (Int32 × Mem)) (m1 : Mem) (x3 : Int32) (x4 : Int32) : Option (Int32 × Mem) :=
  if x4 < (8 : Int32) then
    cl (fX11_bitsOf m1 y2 x4) <| fun r10 m9 =>
    lt (fun (v11 : Int32) =>
      lt (x3 + v11) <| fun x12 =>
      rec m9 x12 (x4 + (1 : Int32))) <| fun j25 =>
    if r10 = (0 : Int32) then
      j25 (0 : Int32)
    else
      j25 (1 : Int32)
  else
    k33 m1 x3
def fX11_fieldsOf_L4 (k33 : Mem → Int32 → Option (Int32 × Mem)) (y2 : Int32) : Nat → Mem → Int32 → Int32 → Option (Int32 × Mem)
  | 0 => fun _ _ _ => none
  | n + 1 => fun m1 x3 x4 => fX11_fieldsOf_L4_b k33 y2 (fX11_fieldsOf_L4 k33 y2 n) m1 x3 x4
def fX11_fieldsOf (m0 : Mem) (a1 : Int32) : Option (Int32 × Mem) :=
  fX11_fieldsOf_L4
    (fun (m7 : Mem) (x8 : Int32) =>
      some (x8, m7))
    a1 5000 m0 (0 : Int32) (0 : Int32)
def rmX11_fieldAt : Room := { frames := 1, cells := 0, slots := 0, locals := 22 }
def fX11_fieldAt_L9_b (k46 : Mem → Int32 → Option (Int32 × Mem)) (k65 : Mem → Option (Int32 × Mem)) (y2 : Int32) (y3 : Int32) (rec : Mem → Int32 → Int32 → Int32 → Option (Int32 × Mem)) (m1 : Mem) (x4 : Int32) (x5 : Int32) (x6 : Int32) : Option (Int32 × Mem) :=
  if x6 < (0 : Int32) then
    k65 m1
  else
    cl (fX11_signAt m1 y2 x6) <| fun r14 m13 =>
    cl (fX11_letterOf m13 r14) <| fun r16 m15 =>
    lt (fun (m17 : Mem) (x18 : Int32) (x19 : Int32) =>
      rec m17 x18 x19 (x6 + (-1 : Int32))) <| fun j59 =>
    if r16 < (0 : Int32) then
      j59 m15 x4 x5
    else
      cl (fX11_has m15 x4 r16) <| fun r21 m20 =>
      if r21 = (0 : Int32) then
        if x5 = y3 then
          k46 m20 r16
        else
          lt (x4 ||| ((1 : Int32) <<< (r16 &&& 31))) <| fun x22 =>
          j59 m20 x22 (x5 + (1 : Int32))
      else
        j59 m20 x4 x5
def fX11_fieldAt_L9 (k46 : Mem → Int32 → Option (Int32 × Mem)) (k65 : Mem → Option (Int32 × Mem)) (y2 : Int32) (y3 : Int32) : Nat → Mem → Int32 → Int32 → Int32 → Option (Int32 × Mem)
  | 0 => fun _ _ _ _ => none
  | n + 1 => fun m1 x4 x5 x6 => fX11_fieldAt_L9_b k46 k65 y2 y3 (fX11_fieldAt_L9 k46 k65 y2 y3 n) m1 x4 x5 x6
def fX11_fieldAt (m0 : Mem) (a1 : Int32) (a2 : Int32) : Option (Int32 × Mem) :=
  fX11_fieldAt_L9
    (fun (m9 : Mem) (x10 : Int32) =>
      some (x10, m9))
    (fun (m12 : Mem) =>
      some ((-1 : Int32), m12))
    a1 a2 5000 m0 (0 : Int32) (0 : Int32) (11 : Int32)
def rmX11_stands : Room := { frames := 1, cells := 0, slots := 0, locals := 22 }
def fX11_stands_L10_b (k52 : Mem → Int32 → Int32 → Option (Int32 × Mem)) (y2 : Int32) (y3 : Int32) (y4 : Int32) (rec : Mem → Int32 → Int32 → Int32 → Option (Int32 × Mem)) (m1 : Mem) (x5 : Int32) (x6 : Int32) (x7 : Int32) : Option (Int32 × Mem) :=
  if x7 < (0 : Int32) then
    k52 m1 x5 x6
  else
    cl (fX11_signAt m1 y2 x7) <| fun r15 m14 =>
    ck (inb y3 8) <|
    lt (fun (x16 : Int32) (x17 : Int32) =>
      rec m14 x16 x17 (x7 + (-1 : Int32))) <| fun j46 =>
    if r15 = (sV 3 (ix y3)) then
      lt (((2 : Int32) * x5) + ((y4 >>> (x7 &&& 31)) &&& (1 : Int32))) <| fun x18 =>
      j46 x18 (x6 + (1 : Int32))
    else
      j46 x5 x6
def fX11_stands_L10 (k52 : Mem → Int32 → Int32 → Option (Int32 × Mem)) (y2 : Int32) (y3 : Int32) (y4 : Int32) : Nat → Mem → Int32 → Int32 → Int32 → Option (Int32 × Mem)
  | 0 => fun _ _ _ _ => none
  | n + 1 => fun m1 x5 x6 x7 => fX11_stands_L10_b k52 y2 y3 y4 (fX11_stands_L10 k52 y2 y3 y4 n) m1 x5 x6 x7
def fX11_stands (m0 : Mem) (a1 : Int32) (a2 : Int32) (a3 : Int32) : Option (Int32 × Mem) :=
  fX11_stands_L10
    (fun (m11 : Mem) (x12 : Int32) (x13 : Int32) =>
      if (3 : Int32) < a2 then
        if x12 < ((1 : Int32) <<< ((x13 - (1 : Int32)) &&& 31)) then
          some (x12, m11)
        else
          some ((x12 - ((1 : Int32) <<< (x13 &&& 31))), m11)
      else
        some (x12, m11))
    a1 a2 a3 5000 m0 (0 : Int32) (0 : Int32) (11 : Int32)
def rmX11_canStand : Room := { frames := 2, cells := 0, slots := 0, locals := 46 }
def fX11_canStand (m0 : Mem) (a1 : Int32) (a2 : Int32) (a3 : Int32) : Option (Int32 × Mem) :=
  cl (fX11_bitsOf m0 a1 a2) <| fun r2 m1 =>
  cl (fX11_size m1 r2) <| fun r4 m3 =>
  if (3 : Int32) < a2 then
    cl (fX11_isIn m3 ((a3).toInt64) (((-((1 : Int32) <<< ((r4 - (1 : Int32)) &&& 31)))).toInt64) (((((1 : Int32) <<< ((r4 - (1 : Int32)) &&& 31)) - (1 : Int32))).toInt64)) <| fun r6 m5 =>
    ck (isB r6) (some (r6, m5))
  else
    cl (fX11_isIn m3 ((a3).toInt64) (0 : Int64) (((((1 : Int32) <<< (r4 &&& 31)) - (1 : Int32))).toInt64)) <| fun r8 m7 =>
    ck (isB r8) (some (r8, m7))
def rmX11_laidIn : Room := { frames := 1, cells := 0, slots := 0, locals := 22 }
def fX11_laidIn_L10_b (k73 : Mem → Int32 → Option (Int32 × Mem)) (y2 : Int32) (y3 : Int32) (rec : Mem → Int32 → Int32 → Int32 → Option (Int32 × Mem)) (m1 : Mem) (x4 : Int32) (x5 : Int32) (x6 : Int32) : Option (Int32 × Mem) :=
  if x6 < (12 : Int32) then
    cl (fX11_signAt m1 y2 x6) <| fun r12 m11 =>
    ck (inb y3 8) <|
    lt (fun (x13 : Int32) (x14 : Int32) =>
      rec m11 x13 x14 (x6 + (1 : Int32))) <| fun j67 =>
    if r12 = (sV 3 (ix y3)) then
      lt (fun (v15 : Int32) =>
        lt (x5 >>> ((1 : Int32) &&& 31)) <| fun x16 =>
        j67 v15 x16) <| fun j59 =>
      if (x5 &&& (1 : Int32)) = (1 : Int32) then
        j59 (x4 ||| ((1 : Int32) <<< (x6 &&& 31)))
      else
        j59 (x4 &&& (((1 : Int32) <<< (x6 &&& 31)) ^^^ (-1 : Int32)))
    else
      j67 x4 x5
  else
    k73 m1 x4
def fX11_laidIn_L10 (k73 : Mem → Int32 → Option (Int32 × Mem)) (y2 : Int32) (y3 : Int32) : Nat → Mem → Int32 → Int32 → Int32 → Option (Int32 × Mem)
  | 0 => fun _ _ _ _ => none
  | n + 1 => fun m1 x4 x5 x6 => fX11_laidIn_L10_b k73 y2 y3 (fX11_laidIn_L10 k73 y2 y3 n) m1 x4 x5 x6
def fX11_laidIn (m0 : Mem) (a1 : Int32) (a2 : Int32) (a3 : Int32) (a4 : Int32) : Option (Int32 × Mem) :=
  fX11_laidIn_L10
    (fun (m9 : Mem) (x10 : Int32) =>
      some (x10, m9))
    a1 a2 5000 m0 a3 a4 (0 : Int32)
def rmX11_ruleHolds : Room := { frames := 2, cells := 0, slots := 0, locals := 48 }
def fX11_ruleHolds (m0 : Mem) (a1 : Int32) (a2 : Int32) (a3 : Int32) : Option (Int32 × Mem) :=
  lt (((9 : Int32) * a1) + ((3 : Int32) * a2)) <| fun x1 =>
  ck (inb (x1 + (1 : Int32)) 108) <|
  cl (fX11_stands m0 a1 (m0 368 (ix (x1 + (1 : Int32)))) a3) <| fun r3 m2 =>
  ck (inb x1 108) <|
  if (m2 368 (ix x1)) = (35 : Int32) then
    ck (inb (x1 + (2 : Int32)) 108) <|
    if r3 = (m2 368 (ix (x1 + (2 : Int32)))) then
      some ((0 : Int32), m2)
    else
      some ((1 : Int32), m2)
  else
    ck (inb x1 108) <|
    if (m2 368 (ix x1)) = (47 : Int32) then
      ck (inb (x1 + (2 : Int32)) 108) <|
      ck ((m2 368 (ix (x1 + (2 : Int32)))) != 0) <|
      if (r3 % (m2 368 (ix (x1 + (2 : Int32))))) = (0 : Int32) then
        some ((1 : Int32), m2)
      else
        some ((0 : Int32), m2)
    else
      ck (inb (x1 + (2 : Int32)) 108) <|
      cl (fX11_stands m2 a1 (m2 368 (ix (x1 + (2 : Int32)))) a3) <| fun r5 m4 =>
      if r3 < r5 then
        some ((1 : Int32), m4)
      else
        some ((0 : Int32), m4)
def rmX11_fitsWord : Room := { frames := 3, cells := 0, slots := 0, locals := 73 }
def fX11_fitsWord_L22_b (k60 : Mem → Int32 → Option (Int32 × Mem)) (y6 : Int32) (y7 : Int32) (rec : Mem → Int32 → Int32 → Option (Int32 × Mem)) (m5 : Mem) (x8 : Int32) (x9 : Int32) : Option (Int32 × Mem) :=
  ck (inb y6 12) <|
  if x9 < (m5 367 (ix y6)) then
    lt (fun (m14 : Mem) (v15 : Int32) =>
      rec m14 v15 (x9 + (1 : Int32))) <| fun j53 =>
    lt (fun (m16 : Mem) =>
      j53 m16 (0 : Int32)) <| fun j52 =>
    if x8 = (0 : Int32) then
      j52 m5
    else
      cl (fX11_ruleHolds m5 y6 x9 y7) <| fun r18 m17 =>
      if r18 = (0 : Int32) then
        j52 m17
      else
        j53 m17 (1 : Int32)
  else
    k60 m5 x8
def fX11_fitsWord_L22 (k60 : Mem → Int32 → Option (Int32 × Mem)) (y6 : Int32) (y7 : Int32) : Nat → Mem → Int32 → Int32 → Option (Int32 × Mem)
  | 0 => fun _ _ _ => none
  | n + 1 => fun m5 x8 x9 => fX11_fitsWord_L22_b k60 y6 y7 (fX11_fitsWord_L22 k60 y6 y7 n) m5 x8 x9
def fX11_fitsWord (m0 : Mem) (a1 : Int32) (a2 : Int32) : Option (Int32 × Mem) :=
  cl (fX11_maskOf m0 a1) <| fun r2 m1 =>
  cl (fX11_valueOf m1 a1) <| fun r4 m3 =>
  if (a2 &&& r2) = r4 then
    fX11_fitsWord_L22
      (fun (m12 : Mem) (x13 : Int32) =>
        ck (isB x13) (some (x13, m12)))
      a1 a2 5000 m3 (1 : Int32) (0 : Int32)
  else
    some ((0 : Int32), m3)
def rmX11_isOver : Room := { frames := 1, cells := 0, slots := 0, locals := 21 }
def fX11_isOver (m0 : Mem) (a1 : Int32) (a2 : Int32) : Option (Int32 × Mem) :=
  cl (fX11_maskOf m0 a1) <| fun r2 m1 =>
  cl (fX11_maskOf m1 a2) <| fun r4 m3 =>
  if (r2 &&& r4) = r4 then
    if r2 = r4 then
      some ((0 : Int32), m3)
    else
      cl (fX11_valueOf m3 a1) <| fun r6 m5 =>
      cl (fX11_valueOf m5 a2) <| fun r8 m7 =>
      if (r6 &&& r4) = r8 then
        some ((1 : Int32), m7)
      else
        some ((0 : Int32), m7)
  else
    some ((0 : Int32), m3)
def rmX11_newForms : Room := { frames := 2, cells := 0, slots := 0, locals := 45 }
def fX11_newForms_L7_b (k43 : Mem → Option (Unit × Mem))  (rec : Mem → Int32 → Option (Unit × Mem)) (m2 : Mem) (x3 : Int32) : Option (Unit × Mem) :=
  if x3 < (m2 362 8) then
    cl (fX11_fixedIn m2 x3) <| fun r9 m8 =>
    ck (inb x3 12) <|
    lt (sto m8 369 (ix x3) r9) <| fun m10 =>
    cl (fX11_onesIn m10 x3) <| fun r12 m11 =>
    ck (inb x3 12) <|
    lt (sto m11 370 (ix x3) r12) <| fun m13 =>
    rec m13 (x3 + (1 : Int32))
  else
    k43 m2
def fX11_newForms_L7 (k43 : Mem → Option (Unit × Mem))  : Nat → Mem → Int32 → Option (Unit × Mem)
  | 0 => fun _ _ => none
  | n + 1 => fun m2 x3 => fX11_newForms_L7_b k43  (fX11_newForms_L7 k43  n) m2 x3
def fX11_newForms (m0 : Mem) (a1 : Int32) : Option (Unit × Mem) :=
  lt (sto m0 362 8 a1) <| fun m1 =>
  fX11_newForms_L7
    (fun (m5 : Mem) =>
      lt (sto m5 362 11 (0 : Int32)) <| fun m6 =>
      lt (sto m6 362 18 (0 : Int32)) <| fun m7 =>
      some ((), m7))
    5000 m1 (0 : Int32)
