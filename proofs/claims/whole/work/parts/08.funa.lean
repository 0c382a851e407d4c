def rmX0_at : Room := { frames := 0, cells := 0, slots := 0, locals := 0 }
def fX0_at (k0 : Nat) (m0 : Mem) (a1 : Int32) : Option (Int32 × Mem) :=
  if a1 < (0 : Int32) then
    some ((-1 : Int32), m0)
  else
    if a1 < (m0 k0 1) then
      ck (inb a1 (al (k0 + 1))) <|
      some ((m0 (k0 + 1) (ix a1)), m0)
    else
      some ((-1 : Int32), m0)
def rmX0_add : Room := { frames := 0, cells := 0, slots := 0, locals := 0 }
def fX0_add (k0 : Nat) (m0 : Mem) (a1 : Int32) : Option (Unit × Mem) :=
  if (m0 k0 1) < (Int32.ofNat (al (k0 + 1))) then
    ck (inb (m0 k0 1) (al (k0 + 1))) <|
    lt (sto m0 (k0 + 1) (ix (m0 k0 1)) a1) <| fun m1 =>
    lt (sto m1 k0 1 ((m1 k0 1) + (1 : Int32))) <| fun m2 =>
    some ((), m2)
  else
    some ((), m0)
def rmX0_addName : Room := { frames := 1, cells := 0, slots := 0, locals := 21 }
def fX0_addName_L3_b (k30 : Mem → Option (Unit × Mem)) (q2 : Nat) (y3 : Int32) (rec : Mem → Int32 → Option (Unit × Mem)) (m1 : Mem) (x4 : Int32) : Option (Unit × Mem) :=
  if x4 < (0 : Int32) then
    k30 m1
  else
    lt ((y3 >>> (x4 &&& 31)) &&& (255 : Int32)) <| fun x7 =>
    lt (fun (m8 : Mem) =>
      rec m8 (x4 + (-8 : Int32))) <| fun j24 =>
    if x7 = (0 : Int32) then
      j24 m1
    else
      cl (fX0_add q2 m1 x7) <| fun _ m9 =>
      j24 m9
def fX0_addName_L3 (k30 : Mem → Option (Unit × Mem)) (q2 : Nat) (y3 : Int32) : Nat → Mem → Int32 → Option (Unit × Mem)
  | 0 => fun _ _ => none
  | n + 1 => fun m1 x4 => fX0_addName_L3_b k30 q2 y3 (fX0_addName_L3 k30 q2 y3 n) m1 x4
def fX0_addName (k0 : Nat) (m0 : Mem) (a1 : Int32) : Option (Unit × Mem) :=
  fX0_addName_L3
    (fun (m6 : Mem) =>
      some ((), m6))
    k0 a1 5000 m0 (16 : Int32)
def rmX0_addNumber : Room := { frames := 1, cells := 0, slots := 0, locals := 21 }
def fX0_addNumber_L19_b (k54 : Mem → Option (Unit × Mem)) (q4 : Nat) (y5 : Int32) (rec : Mem → Int32 → Option (Unit × Mem)) (m3 : Mem) (x6 : Int32) : Option (Unit × Mem) :=
  if (0 : Int32) < x6 then
    lt (fun (m9 : Mem) =>
      lt (x6 / (10 : Int32)) <| fun x10 =>
      rec m9 x10) <| fun j46 =>
    lt (α := Option (Unit × Mem)) (
      ck (x6 != 0) <|
      cl (fX0_add q4 m3 ((48 : Int32) + ((y5 / x6) % (10 : Int32)))) <| fun _ m11 =>
      j46 m11) <| fun j33 =>
    if y5 < x6 then
      if x6 = (1 : Int32) then
        j33
      else
        j46 m3
    else
      j33
  else
    k54 m3
def fX0_addNumber_L19 (k54 : Mem → Option (Unit × Mem)) (q4 : Nat) (y5 : Int32) : Nat → Mem → Int32 → Option (Unit × Mem)
  | 0 => fun _ _ => none
  | n + 1 => fun m3 x6 => fX0_addNumber_L19_b k54 q4 y5 (fX0_addNumber_L19 k54 q4 y5 n) m3 x6
def fX0_addNumber (k0 : Nat) (m0 : Mem) (a1 : Int32) : Option (Unit × Mem) :=
  lt (fun (m1 : Mem) (x2 : Int32) =>
    fX0_addNumber_L19
      (fun (m8 : Mem) =>
        some ((), m8))
      k0 x2 5000 m1 (1000 : Int32)) <| fun j15 =>
  if a1 < (0 : Int32) then
    cl (fX0_add k0 m0 (45 : Int32)) <| fun _ m12 =>
    lt (-a1) <| fun x13 =>
    j15 m12 x13
  else
    j15 m0 a1
def rmX1_become : Room := { frames := 1, cells := 0, slots := 0, locals := 60 }
def fX1_become (k0 : Nat) (m0 : Mem) (a1 : Nat) : Option (Unit × Mem) :=
  ck (cpb (0 : Int32) (0 : Int32) (32 : Int32) 32 32) <|
  lt (cpy m0 (a1 + 1) (k0 + 1) (ix (0 : Int32)) (ix (0 : Int32)) (ix (32 : Int32))) <| fun m1 =>
  ck (cpb (0 : Int32) (0 : Int32) (8 : Int32) 8 8) <|
  lt (cpy m1 (a1 + 2) (k0 + 2) (ix (0 : Int32)) (ix (0 : Int32)) (ix (8 : Int32))) <| fun m2 =>
  ck (cpb (0 : Int32) (0 : Int32) (32 : Int32) 32 32) <|
  lt (cpy m2 (a1 + 3) (k0 + 3) (ix (0 : Int32)) (ix (0 : Int32)) (ix (32 : Int32))) <| fun m3 =>
  lt (sto m3 k0 3 (m3 a1 3)) <| fun m4 =>
  some ((), m4)
def rmX1_hasMet : Room := { frames := 0, cells := 0, slots := 0, locals := 0 }
def fX1_hasMet_L2_b (k20 : Option (Int32 × Mem)) (k28 : Option (Int32 × Mem)) (m1 : Mem) (q2 : Nat) (y3 : Int32) (rec : Int32 → Option (Int32 × Mem)) (x4 : Int32) : Option (Int32 × Mem) :=
  if x4 < (m1 q2 3) then
    ck (inb x4 32) <|
    if (m1 (q2 + 3) (ix x4)) = y3 then
      k20
    else
      rec (x4 + (1 : Int32))
  else
    k28
def fX1_hasMet_L2 (k20 : Option (Int32 × Mem)) (k28 : Option (Int32 × Mem)) (m1 : Mem) (q2 : Nat) (y3 : Int32) : Nat → Int32 → Option (Int32 × Mem)
  | 0 => fun _ => none
  | n + 1 => fun x4 => fX1_hasMet_L2_b k20 k28 m1 q2 y3 (fX1_hasMet_L2 k20 k28 m1 q2 y3 n) x4
def fX1_hasMet (k0 : Nat) (m0 : Mem) (a1 : Int32) : Option (Int32 × Mem) :=
  fX1_hasMet_L2
    (
      some ((1 : Int32), m0))
    (
      some ((0 : Int32), m0))
    m0 k0 a1 5000 (0 : Int32)
def rmX1_meet : Room := { frames := 1, cells := 0, slots := 0, locals := 60 }
def fX1_meet (k0 : Nat) (m0 : Mem) (a1 : Int32) : Option (Unit × Mem) :=
  cl (fX1_hasMet k0 m0 a1) <| fun r2 m1 =>
  if r2 = (0 : Int32) then
    lt (fun (m3 : Mem) =>
      ck (inb (m3 k0 3) 32) <|
      lt (sto m3 (k0 + 3) (ix (m3 k0 3)) a1) <| fun m4 =>
      lt (sto m4 k0 3 ((m4 k0 3) + (1 : Int32))) <| fun m5 =>
      some ((), m5)) <| fun j45 =>
    if (m1 k0 3) = (32 : Int32) then
      lt (sto m1 k0 3 ((m1 k0 3) - (1 : Int32))) <| fun m6 =>
      ck (cpb (1 : Int32) (0 : Int32) (m6 k0 3) 32 32) <|
      lt (cpy m6 (k0 + 3) (k0 + 3) (ix (1 : Int32)) (ix (0 : Int32)) (ix (m6 k0 3))) <| fun m7 =>
      j45 m7
    else
      j45 m1
  else
    some ((), m1)
def rmX2_clear : Room := { frames := 0, cells := 0, slots := 0, locals := 0 }
def fX2_clear (k0 : Nat) (m0 : Mem) : Option (Unit × Mem) :=
  lt (sto m0 k0 2 (0 : Int32)) <| fun m1 =>
  lt (sto m1 k0 3 (0 : Int32)) <| fun m2 =>
  some ((), m2)
def rmX2_addBit : Room := { frames := 0, cells := 0, slots := 0, locals := 0 }
def fX2_addBit (k0 : Nat) (m0 : Mem) (a1 : Int32) : Option (Int32 × Mem) :=
  if (m0 k0 2) < (8 : Int32) then
    ck (inb (m0 k0 2) 8) <|
    lt (sto m0 (k0 + 1) (ix (m0 k0 2)) a1) <| fun m1 =>
    lt (sto m1 k0 2 ((m1 k0 2) + (1 : Int32))) <| fun m2 =>
    lt (sto m2 k0 3 ((m2 k0 3) ||| ((1 : Int32) <<< (a1 &&& 31)))) <| fun m3 =>
    some ((1 : Int32), m3)
  else
    some ((0 : Int32), m0)
def rmX2_canHold : Room := { frames := 0, cells := 0, slots := 0, locals := 0 }
def fX2_canHold (k0 : Nat) (m0 : Mem) (a1 : Int32) : Option (Int32 × Mem) :=
  lt (fun (v1 : Int32) =>
    if a1 < v1 then
      some ((0 : Int32), m0)
    else
      if a1 < (v1 + ((1 : Int32) <<< ((m0 k0 2) &&& 31))) then
        some ((1 : Int32), m0)
      else
        some ((0 : Int32), m0)) <| fun j20 =>
  if (m0 k0 0) = (0 : Int32) then
    j20 (0 : Int32)
  else
    j20 ((-((1 : Int32) <<< ((m0 k0 2) &&& 31))) / (2 : Int32))
def rmX2_numberIn : Room := { frames := 0, cells := 0, slots := 0, locals := 0 }
def fX2_numberIn_L32_b (k61 : Int32 → Option (Int32 × Mem)) (m2 : Mem) (q3 : Nat) (y4 : Int32) (rec : Int32 → Int32 → Option (Int32 × Mem)) (x5 : Int32) (x6 : Int32) : Option (Int32 × Mem) :=
  if x6 < (m2 q3 2) then
    ck (inb x6 8) <|
    lt (((2 : Int32) * x5) + ((y4 >>> ((m2 (q3 + 1) (ix x6)) &&& 31)) &&& (1 : Int32))) <| fun x9 =>
    rec x9 (x6 + (1 : Int32))
  else
    k61 x5
def fX2_numberIn_L32 (k61 : Int32 → Option (Int32 × Mem)) (m2 : Mem) (q3 : Nat) (y4 : Int32) : Nat → Int32 → Int32 → Option (Int32 × Mem)
  | 0 => fun _ _ => none
  | n + 1 => fun x5 x6 => fX2_numberIn_L32_b k61 m2 q3 y4 (fX2_numberIn_L32 k61 m2 q3 y4 n) x5 x6
def fX2_numberIn (k0 : Nat) (m0 : Mem) (a1 : Int32) : Option (Int32 × Mem) :=
  lt (fun (v1 : Int32) =>
    fX2_numberIn_L32
      (fun (x8 : Int32) =>
        some (x8, m0))
      m0 k0 a1 5000 v1 (0 : Int32)) <| fun j29 =>
  lt (α := Option (Int32 × Mem)) (
    j29 (0 : Int32)) <| fun j28 =>
  if (m0 k0 0) = (0 : Int32) then
    j28
  else
    if (0 : Int32) < (m0 k0 2) then
      ck (inb (0 : Int32) 8) <|
      j29 (-((a1 >>> ((m0 (k0 + 1) (ix (0 : Int32))) &&& 31)) &&& (1 : Int32)))
    else
      j28
def rmX2_putInto : Room := { frames := 0, cells := 0, slots := 0, locals := 0 }
def fX2_putInto_L12_b (k51 : Int32 → Option (Int32 × Mem)) (m2 : Mem) (q3 : Nat) (y4 : Int32) (rec : Int32 → Int32 → Option (Int32 × Mem)) (x5 : Int32) (x6 : Int32) : Option (Int32 × Mem) :=
  if x6 < (m2 q3 2) then
    ck (inb x6 8) <|
    lt (x5 ||| (((y4 >>> ((((m2 q3 2) - (1 : Int32)) - x6) &&& 31)) &&& (1 : Int32)) <<< ((m2 (q3 + 1) (ix x6)) &&& 31))) <| fun x9 =>
    rec x9 (x6 + (1 : Int32))
  else
    k51 x5
def fX2_putInto_L12 (k51 : Int32 → Option (Int32 × Mem)) (m2 : Mem) (q3 : Nat) (y4 : Int32) : Nat → Int32 → Int32 → Option (Int32 × Mem)
  | 0 => fun _ _ => none
  | n + 1 => fun x5 x6 => fX2_putInto_L12_b k51 m2 q3 y4 (fX2_putInto_L12 k51 m2 q3 y4 n) x5 x6
def fX2_putInto (k0 : Nat) (m0 : Mem) (a1 : Int32) (a2 : Int32) : Option (Int32 × Mem) :=
  lt (a1 &&& ((m0 k0 3) ^^^ (-1 : Int32))) <| fun x1 =>
  fX2_putInto_L12
    (fun (x8 : Int32) =>
      some (x8, m0))
    m0 k0 a2 5000 x1 (0 : Int32)
def rmX3_clear : Room := { frames := 1, cells := 0, slots := 0, locals := 20 }
def fX3_clear_L27_b (k48 : Mem → Option (Unit × Mem)) (q7 : Nat) (rec : Mem → Int32 → Option (Unit × Mem)) (m6 : Mem) (x8 : Int32) : Option (Unit × Mem) :=
  if x8 < (8 : Int32) then
    ck (inb x8 8) <|
    cl (fX2_clear ((q7 + 1) + 5 + 2 * ix x8) m6) <| fun _ m12 =>
    rec m12 (x8 + (1 : Int32))
  else
    k48 m6
def fX3_clear_L27 (k48 : Mem → Option (Unit × Mem)) (q7 : Nat) : Nat → Mem → Int32 → Option (Unit × Mem)
  | 0 => fun _ _ => none
  | n + 1 => fun m6 x8 => fX3_clear_L27_b k48 q7 (fX3_clear_L27 k48 q7 n) m6 x8
def fX3_clear (k0 : Nat) (m0 : Mem) : Option (Unit × Mem) :=
  lt (sto m0 k0 1 (0 : Int32)) <| fun m1 =>
  lt (sto m1 k0 2 (0 : Int32)) <| fun m2 =>
  lt (sto m2 k0 3 (0 : Int32)) <| fun m3 =>
  lt (sto m3 k0 6 (0 : Int32)) <| fun m4 =>
  lt (sto m4 k0 10 (0 : Int32)) <| fun m5 =>
  fX3_clear_L27
    (fun (m10 : Mem) =>
      some ((), m10))
    k0 5000 m5 (0 : Int32)
def rmX10_letterOf : Room := { frames := 0, cells := 0, slots := 0, locals := 0 }
def fX10_letterOf (m0 : Mem) (a0 : Int32) : Option (Int32 × Mem) :=
  lt (α := Option (Int32 × Mem)) (
    if a0 < (87 : Int32) then
      some ((-1 : Int32), m0)
    else
      if (90 : Int32) < a0 then
        some ((-1 : Int32), m0)
      else
        some (((a0 - (87 : Int32)) + (4 : Int32)), m0)) <| fun j17 =>
  if a0 < (119 : Int32) then
    j17
  else
    if (122 : Int32) < a0 then
      j17
    else
      some ((a0 - (119 : Int32)), m0)
def rmX3_addSign : Room := { frames := 1, cells := 0, slots := 0, locals := 21 }
def fX3_addSign (k0 : Nat) (m0 : Mem) (a1 : Int32) (a2 : Int32) : Option (Int32 × Mem) :=
  if a1 = (46 : Int32) then
    some ((1 : Int32), m0)
  else
    lt (α := Option (Int32 × Mem)) (
      lt (sto m0 k0 2 ((m0 k0 2) ||| ((1 : Int32) <<< (a2 &&& 31)))) <| fun m1 =>
      lt (sto m1 k0 3 ((m1 k0 3) ||| ((a1 - (48 : Int32)) <<< (a2 &&& 31)))) <| fun m2 =>
      some ((1 : Int32), m2)) <| fun j20 =>
    if a1 = (48 : Int32) then
      j20
    else
      if a1 = (49 : Int32) then
        j20
      else
        cl (fX10_letterOf m0 a1) <| fun r4 m3 =>
        if r4 = (-1 : Int32) then
          some ((0 : Int32), m3)
        else
          ck (inb r4 8) <|
          lt (fun (m6 : Mem) =>
            ck (inb r4 8) <|
            cl (fX2_addBit ((k0 + 1) + 5 + 2 * ix r4) m6 a2) <| fun r9 m8 =>
            ck (isB r9) (some (r9, m8))) <| fun j102 =>
          if (m3 ((k0 + 1) + 5 + 2 * ix r4) 2) = (0 : Int32) then
            if (m3 k0 6) < (8 : Int32) then
              ck (inb (m3 k0 6) 8) <|
              lt (sto m3 (k0 + 2) (ix (m3 k0 6)) r4) <| fun m10 =>
              lt (sto m10 k0 6 ((m10 k0 6) + (1 : Int32))) <| fun m11 =>
              j102 m11
            else
              j102 m3
          else
            j102 m3
def rmX3_addRule : Room := { frames := 0, cells := 0, slots := 0, locals := 0 }
def fX3_addRule (k0 : Nat) (m0 : Mem) (a1 : Int32) (a2 : Int32) (a3 : Int32) : Option (Unit × Mem) :=
  if (m0 k0 10) < (3 : Int32) then
    ck (inb (m0 k0 10) 3) <|
    lt (sto m0 (k0 + 4) (ix (m0 k0 10)) a1) <| fun m1 =>
    ck (inb (m1 k0 10) 3) <|
    lt (sto m1 (k0 + 3) (ix (m1 k0 10)) a2) <| fun m2 =>
    ck (inb (m2 k0 10) 3) <|
    lt (sto m2 (k0 + 5) (ix (m2 k0 10)) a3) <| fun m3 =>
    lt (sto m3 k0 10 ((m3 k0 10) + (1 : Int32))) <| fun m4 =>
    some ((), m4)
  else
    some ((), m0)
def rmX3_fieldAt : Room := { frames := 0, cells := 0, slots := 0, locals := 0 }
def fX3_fieldAt (k0 : Nat) (m0 : Mem) (a1 : Int32) : Option (Nat × Mem) :=
  ck (inb a1 8) <|
  ck (inb (m0 (k0 + 2) (ix a1)) 8) <|
  some (((k0 + 1) + 5 + 2 * ix (m0 (k0 + 2) (ix a1))), m0)
def rmX3_placeOf : Room := { frames := 0, cells := 0, slots := 0, locals := 0 }
def fX3_placeOf_L2_b (k20 : Int32 → Option (Int32 × Mem)) (k28 : Option (Int32 × Mem)) (m1 : Mem) (q2 : Nat) (y3 : Int32) (rec : Int32 → Option (Int32 × Mem)) (x4 : Int32) : Option (Int32 × Mem) :=
  if x4 < (m1 q2 6) then
    ck (inb x4 8) <|
    if (m1 (q2 + 2) (ix x4)) = y3 then
      k20 x4
    else
      rec (x4 + (1 : Int32))
  else
    k28
def fX3_placeOf_L2 (k20 : Int32 → Option (Int32 × Mem)) (k28 : Option (Int32 × Mem)) (m1 : Mem) (q2 : Nat) (y3 : Int32) : Nat → Int32 → Option (Int32 × Mem)
  | 0 => fun _ => none
  | n + 1 => fun x4 => fX3_placeOf_L2_b k20 k28 m1 q2 y3 (fX3_placeOf_L2 k20 k28 m1 q2 y3 n) x4
def fX3_placeOf (k0 : Nat) (m0 : Mem) (a1 : Int32) : Option (Int32 × Mem) :=
  fX3_placeOf_L2
    (fun (x6 : Int32) =>
      some (x6, m0))
    (
      some ((-1 : Int32), m0))
    m0 k0 a1 5000 (0 : Int32)
def rmX3_isOver : Room := { frames := 0, cells := 0, slots := 0, locals := 0 }
def fX3_isOver (k0 : Nat) (m0 : Mem) (a1 : Nat) : Option (Int32 × Mem) :=
  lt (fun (v1 : Int32) =>
    if v1 = (0 : Int32) then
      some ((0 : Int32), m0)
    else
      if ((m0 k0 3) &&& (m0 a1 2)) = (m0 a1 3) then
        some ((1 : Int32), m0)
      else
        some ((0 : Int32), m0)) <| fun j32 =>
  lt (α := Option (Int32 × Mem)) (
    j32 (0 : Int32)) <| fun j31 =>
  if ((m0 k0 2) &&& (m0 a1 2)) = (m0 a1 2) then
    if (m0 k0 2) = (m0 a1 2) then
      j31
    else
      j32 (1 : Int32)
  else
    j31
def rmX3_isTwinOf : Room := { frames := 0, cells := 0, slots := 0, locals := 0 }
def fX3_isTwinOf (k0 : Nat) (m0 : Mem) (a1 : Nat) : Option (Int32 × Mem) :=
  if (m0 k0 2) = (m0 a1 2) then
    if (m0 k0 3) = (m0 a1 3) then
      some ((1 : Int32), m0)
    else
      some ((0 : Int32), m0)
  else
    some ((0 : Int32), m0)
def rmX3_holdsIn : Room := { frames := 1, cells := 0, slots := 0, locals := 23 }
def fX3_holdsIn (k0 : Nat) (m0 : Mem) (a1 : Int32) (a2 : Int32) : Option (Int32 × Mem) :=
  ck (inb a2 3) <|
  ck (inb (m0 (k0 + 4) (ix a2)) 8) <|
  cl (fX2_numberIn ((k0 + 1) + 5 + 2 * ix (m0 (k0 + 4) (ix a2))) m0 a1) <| fun r3 m2 =>
  ck (inb a2 3) <|
  lt (m2 (k0 + 5) (ix a2)) <| fun x4 =>
  ck (inb a2 3) <|
  if (m2 (k0 + 3) (ix a2)) = (35 : Int32) then
    if r3 = x4 then
      some ((0 : Int32), m2)
    else
      some ((1 : Int32), m2)
  else
  if (m2 (k0 + 3) (ix a2)) = (47 : Int32) then
    if (0 : Int32) < x4 then
      ck (x4 != 0) <|
      if (r3 % x4) = (0 : Int32) then
        some ((1 : Int32), m2)
      else
        some ((0 : Int32), m2)
    else
      some ((0 : Int32), m2)
  else
    if x4 < (0 : Int32) then
      some ((0 : Int32), m2)
    else
      if x4 < (8 : Int32) then
        ck (inb x4 8) <|
        cl (fX2_numberIn ((k0 + 1) + 5 + 2 * ix x4) m2 a1) <| fun r9 m8 =>
        if r3 < r9 then
          some ((1 : Int32), m8)
        else
          some ((0 : Int32), m8)
      else
        some ((0 : Int32), m2)
def rmX3_doesFit : Room := { frames := 2, cells := 0, slots := 0, locals := 47 }
def fX3_doesFit_L17_b (k34 : Mem → Option (Int32 × Mem)) (k42 : Mem → Option (Int32 × Mem)) (q2 : Nat) (y3 : Int32) (rec : Mem → Int32 → Option (Int32 × Mem)) (m1 : Mem) (x4 : Int32) : Option (Int32 × Mem) :=
  if x4 < (m1 q2 10) then
    cl (fX3_holdsIn q2 m1 y3 x4) <| fun r10 m9 =>
    if r10 = (0 : Int32) then
      k34 m9
    else
      rec m9 (x4 + (1 : Int32))
  else
    k42 m1
def fX3_doesFit_L17 (k34 : Mem → Option (Int32 × Mem)) (k42 : Mem → Option (Int32 × Mem)) (q2 : Nat) (y3 : Int32) : Nat → Mem → Int32 → Option (Int32 × Mem)
  | 0 => fun _ _ => none
  | n + 1 => fun m1 x4 => fX3_doesFit_L17_b k34 k42 q2 y3 (fX3_doesFit_L17 k34 k42 q2 y3 n) m1 x4
def fX3_doesFit (k0 : Nat) (m0 : Mem) (a1 : Int32) : Option (Int32 × Mem) :=
  if (a1 &&& (m0 k0 2)) = (m0 k0 3) then
    fX3_doesFit_L17
      (fun (m6 : Mem) =>
        some ((0 : Int32), m6))
      (fun (m8 : Mem) =>
        some ((1 : Int32), m8))
      k0 a1 5000 m0 (0 : Int32)
  else
    some ((0 : Int32), m0)
def rmX3_madeOf : Room := { frames := 1, cells := 0, slots := 0, locals := 24 }
def fX3_madeOf_L7_b (k55 : Mem → Option (Int32 × Mem)) (k77 : Mem → Int32 → Option (Int32 × Mem)) (q3 : Nat) (q4 : Nat) (rec : Mem → Int32 → Int32 → Option (Int32 × Mem)) (m2 : Mem) (x5 : Int32) (x6 : Int32) : Option (Int32 × Mem) :=
  if x6 < (m2 q3 6) then
    ck (inb x6 8) <|
    lt (m2 (q3 + 2) (ix x6)) <| fun x13 =>
    lt (fun (v14 : Int32) =>
      ck (inb x13 8) <|
      cl (fX2_canHold ((q3 + 1) + 5 + 2 * ix x13) m2 v14) <| fun r17 m16 =>
      if r17 = (0 : Int32) then
        k55 m16
      else
        ck (inb x13 8) <|
        cl (fX2_putInto ((q3 + 1) + 5 + 2 * ix x13) m16 x5 v14) <| fun r20 m19 =>
        rec m19 r20 (x6 + (1 : Int32))) <| fun j38 =>
    if x13 < (Int32.ofNat (al q4)) then
      ck (inb x13 (al q4)) <|
      j38 (m2 q4 (ix x13))
    else
      j38 (0 : Int32)
  else
    k77 m2 x5
def fX3_madeOf_L7 (k55 : Mem → Option (Int32 × Mem)) (k77 : Mem → Int32 → Option (Int32 × Mem)) (q3 : Nat) (q4 : Nat) : Nat → Mem → Int32 → Int32 → Option (Int32 × Mem)
  | 0 => fun _ _ _ => none
  | n + 1 => fun m2 x5 x6 => fX3_madeOf_L7_b k55 k77 q3 q4 (fX3_madeOf_L7 k55 k77 q3 q4 n) m2 x5 x6
def fX3_madeOf (k0 : Nat) (m0 : Mem) (a1 : Nat) : Option (Int32 × Mem) :=
  lt (m0 k0 3) <| fun x1 =>
  fX3_madeOf_L7
    (fun (m8 : Mem) =>
      some ((-1 : Int32), m8))
    (fun (m11 : Mem) (x12 : Int32) =>
      some (x12, m11))
    k0 a1 5000 m0 x1 (0 : Int32)
def rmX3_firstIn : Room := { frames := 1, cells := 0, slots := 0, locals := 23 }
def fX3_firstIn (k0 : Nat) (m0 : Mem) (a1 : Int32) : Option (Int32 × Mem) :=
  if (m0 k0 6) = (0 : Int32) then
    some ((0 : Int32), m0)
  else
    cl (fX3_fieldAt k0 m0 (0 : Int32)) <| fun r2 m1 =>
    ck (isO 2 r2) <|
    cl (fX2_numberIn r2 m1 a1) <| fun r4 m3 =>
    some (r4, m3)
def rmX3_costOf : Room := { frames := 2, cells := 0, slots := 0, locals := 44 }
def fX3_costOf (k0 : Nat) (m0 : Mem) (a1 : Int32) : Option (Int32 × Mem) :=
  lt ((1 : Int32) + (m0 k0 6)) <| fun x1 =>
  lt (x1 + (2 : Int32)) <| fun x2 =>
  if (m0 k0 0) = (1 : Int32) then
    some (x2, m0)
  else
  if (m0 k0 0) = (2 : Int32) then
    some (((3 : Int32) * x1), m0)
  else
  if (m0 k0 0) = (3 : Int32) then
    some (((2 : Int32) * x2), m0)
  else
  if (m0 k0 0) = (4 : Int32) then
    some ((((3 : Int32) * x1) - (1 : Int32)), m0)
  else
  if (m0 k0 0) = (5 : Int32) then
    some ((9 : Int32), m0)
  else
  if (m0 k0 0) = (6 : Int32) then
    cl (fX3_firstIn k0 m0 a1) <| fun r10 m9 =>
    some ((((2 : Int32) * x2) + (iabs r10)), m9)
  else
    some (x1, m0)
def rmX4_has : Room := { frames := 0, cells := 0, slots := 0, locals := 0 }
def fX4_has (m0 : Mem) (a1 : Int32) : Option (Int32 × Mem) :=
  if a1 < (0 : Int32) then
    some ((0 : Int32), m0)
  else
    if a1 < (m0 9 1) then
      some ((1 : Int32), m0)
    else
      some ((0 : Int32), m0)
def rmX4_allOfThem : Room := { frames := 0, cells := 0, slots := 0, locals := 0 }
def fX4_allOfThem (m0 : Mem) : Option (Int32 × Mem) :=
  some ((((1 : Int32) <<< ((m0 9 1) &&& 31)) - (1 : Int32)), m0)
def rmX4_find : Room := { frames := 0, cells := 0, slots := 0, locals := 0 }
def fX4_find_L2_b (k26 : Int32 → Option (Int32 × Mem)) (k34 : Option (Int32 × Mem)) (m1 : Mem) (y2 : Int32) (y3 : Int32) (rec : Int32 → Option (Int32 × Mem)) (x4 : Int32) : Option (Int32 × Mem) :=
  if x4 < y3 then
    if x4 < (12 : Int32) then
      ck (inb x4 12) <|
      if (m1 (11 + 22 * ix x4) 1) = y2 then
        k26 x4
      else
        rec (x4 + (1 : Int32))
    else
      k34
  else
    k34
def fX4_find_L2 (k26 : Int32 → Option (Int32 × Mem)) (k34 : Option (Int32 × Mem)) (m1 : Mem) (y2 : Int32) (y3 : Int32) : Nat → Int32 → Option (Int32 × Mem)
  | 0 => fun _ => none
  | n + 1 => fun x4 => fX4_find_L2_b k26 k34 m1 y2 y3 (fX4_find_L2 k26 k34 m1 y2 y3 n) x4
def fX4_find (m0 : Mem) (a1 : Int32) (a2 : Int32) : Option (Int32 × Mem) :=
  fX4_find_L2
    (fun (x6 : Int32) =>
      some (x6, m0))
    (
      some ((-1 : Int32), m0))
    m0 a1 a2 5000 (0 : Int32)
def rmX4_twins : Room := { frames := 1, cells := 0, slots := 0, locals := 21 }
def fX4_twins_L16_b (k51 : Mem → Int32 → Option (Int32 × Mem)) (y11 : Int32) (rec : Mem → Int32 → Int32 → Option (Int32 × Mem)) (m9 : Mem) (x10 : Int32) (x12 : Int32) : Option (Int32 × Mem) :=
  if x12 < (m9 9 1) then
    ck (inb y11 12) <|
    ck (inb x12 12) <|
    cl (fX3_isTwinOf (11 + 22 * ix y11) m9 (11 + 22 * ix x12)) <| fun r20 m19 =>
    lt (fun (x21 : Int32) =>
      rec m19 x21 (x12 + (1 : Int32))) <| fun j45 =>
    if r20 = (0 : Int32) then
      j45 x10
    else
      j45 (x10 + (1 : Int32))
  else
    k51 m9 x10
def fX4_twins_L16 (k51 : Mem → Int32 → Option (Int32 × Mem)) (y11 : Int32) : Nat → Mem → Int32 → Int32 → Option (Int32 × Mem)
  | 0 => fun _ _ _ => none
  | n + 1 => fun m9 x10 x12 => fX4_twins_L16_b k51 y11 (fX4_twins_L16 k51 y11 n) m9 x10 x12
def fX4_twins_L4_b (k57 : Mem → Int32 → Option (Int32 × Mem))  (rec : Mem → Int32 → Int32 → Option (Int32 × Mem)) (m1 : Mem) (x2 : Int32) (x3 : Int32) : Option (Int32 × Mem) :=
  if x3 < (m1 9 1) then
    lt (x3 + (1 : Int32)) <| fun x8 =>
    fX4_twins_L16
      (fun (m15 : Mem) (x16 : Int32) =>
        rec m15 x16 (x3 + (1 : Int32)))
      x3 5000 m1 x2 x8
  else
    k57 m1 x2
def fX4_twins_L4 (k57 : Mem → Int32 → Option (Int32 × Mem))  : Nat → Mem → Int32 → Int32 → Option (Int32 × Mem)
  | 0 => fun _ _ _ => none
  | n + 1 => fun m1 x2 x3 => fX4_twins_L4_b k57  (fX4_twins_L4 k57  n) m1 x2 x3
def fX4_twins (m0 : Mem) : Option (Int32 × Mem) :=
  fX4_twins_L4
    (fun (m6 : Mem) (x7 : Int32) =>
      some (x7, m6))
    5000 m0 (0 : Int32) (0 : Int32)
def rmX10_within : Room := { frames := 0, cells := 0, slots := 0, locals := 0 }
def fX10_within (m0 : Mem) (a0 : Int32) (a1 : Int32) (a2 : Int32) : Option (Int32 × Mem) :=
  if a0 < a1 then
    some ((0 : Int32), m0)
  else
    if a2 < a0 then
      some ((0 : Int32), m0)
    else
      some ((1 : Int32), m0)
def rmX10_withSign : Room := { frames := 0, cells := 0, slots := 0, locals := 0 }
def fX10_withSign (m0 : Mem) (a0 : Int32) (a1 : Int32) : Option (Int32 × Mem) :=
  some (((a0 <<< ((8 : Int32) &&& 31)) ||| a1), m0)
def rmX5_formNamed : Room := { frames := 1, cells := 0, slots := 0, locals := 23 }
def fX5_formNamed_L4_b (k73 : Mem → Int32 → Option (Int32 × Mem))  (rec : Mem → Int32 → Int32 → Option (Int32 × Mem)) (m1 : Mem) (x2 : Int32) (x3 : Int32) : Option (Int32 × Mem) :=
  if x3 < (200 : Int32) then
    cl (fX0_at 281 m1 (m1 295 3)) <| fun r11 m10 =>
    cl (fX10_within m10 r11 (97 : Int32) (122 : Int32)) <| fun r13 m12 =>
    if r13 = (0 : Int32) then
      k73 m12 x2
    else
      lt (fun (m14 : Mem) (v15 : Int32) =>
        lt (sto m14 295 3 ((m14 295 3) + (1 : Int32))) <| fun m16 =>
        rec m16 v15 (x3 + (1 : Int32))) <| fun j56 =>
      if x3 < (3 : Int32) then
        cl (fX0_at 281 m12 (m12 295 3)) <| fun r18 m17 =>
        cl (fX10_withSign m17 x2 r18) <| fun r20 m19 =>
        j56 m19 r20
      else
        j56 m12 (0 : Int32)
  else
    k73 m1 x2
def fX5_formNamed_L4 (k73 : Mem → Int32 → Option (Int32 × Mem))  : Nat → Mem → Int32 → Int32 → Option (Int32 × Mem)
  | 0 => fun _ _ _ => none
  | n + 1 => fun m1 x2 x3 => fX5_formNamed_L4_b k73  (fX5_formNamed_L4 k73  n) m1 x2 x3
def fX5_formNamed (m0 : Mem) : Option (Int32 × Mem) :=
  fX5_formNamed_L4
    (fun (m6 : Mem) (x7 : Int32) =>
      if x7 = (0 : Int32) then
        some ((-1 : Int32), m6)
      else
        cl (fX4_find m6 x7 (m6 9 1)) <| fun r9 m8 =>
        some (r9, m8))
    5000 m0 (0 : Int32) (0 : Int32)
def rmX10_isDigit : Room := { frames := 0, cells := 0, slots := 0, locals := 0 }
def fX10_isDigit (m0 : Mem) (a0 : Int32) : Option (Int32 × Mem) :=
  if a0 < (48 : Int32) then
    some ((0 : Int32), m0)
  else
    if (57 : Int32) < a0 then
      some ((0 : Int32), m0)
    else
      some ((1 : Int32), m0)
def rmX5_number : Room := { frames := 1, cells := 0, slots := 0, locals := 24 }
def fX5_number_L66_b (k127 : Mem → Int32 → Option (Int32 × Mem)) (q11 : Nat) (y12 : Int32) (y13 : Int32) (rec : Mem → Int32 → Int32 → Option (Int32 × Mem)) (m10 : Mem) (x14 : Int32) (x15 : Int32) : Option (Int32 × Mem) :=
  if x15 < (3 : Int32) then
    cl (fX0_at 281 m10 (m10 295 3)) <| fun r29 m28 =>
    cl (fX10_isDigit m28 r29) <| fun r31 m30 =>
    if r31 = (0 : Int32) then
      k127 m30 x14
    else
      cl (fX0_at 281 m30 (m30 295 3)) <| fun r33 m32 =>
      lt ((((10 : Int32) * x14) + r33) - (48 : Int32)) <| fun x34 =>
      lt (sto m32 295 3 ((m32 295 3) + (1 : Int32))) <| fun m35 =>
      rec m35 x34 (x15 + (1 : Int32))
  else
    k127 m10 x14
def fX5_number_L66 (k127 : Mem → Int32 → Option (Int32 × Mem)) (q11 : Nat) (y12 : Int32) (y13 : Int32) : Nat → Mem → Int32 → Int32 → Option (Int32 × Mem)
  | 0 => fun _ _ _ => none
  | n + 1 => fun m10 x14 x15 => fX5_number_L66_b k127 q11 y12 y13 (fX5_number_L66 k127 q11 y12 y13 n) m10 x14 x15
def fX5_number (m0 : Mem) (a1 : Nat) : Option (Int32 × Mem) :=
  lt (m0 295 3) <| fun x1 =>
  cl (fX0_at 281 m0 (m0 295 3)) <| fun r3 m2 =>
  lt (fun (v4 : Int32) =>
    lt (fun (m5 : Mem) =>
      cl (fX0_at 281 m5 (m5 295 3)) <| fun r7 m6 =>
      cl (fX10_isDigit m6 r7) <| fun r9 m8 =>
      if r9 = (0 : Int32) then
        some ((0 : Int32), m8)
      else
        fX5_number_L66
          (fun (m18 : Mem) (x19 : Int32) =>
            lt (fun (x20 : Int32) =>
              cl (fX2_canHold a1 m18 x20) <| fun r22 m21 =>
              if r22 = (0 : Int32) then
                lt (sto m21 295 3 x1) <| fun m23 =>
                some ((0 : Int32), m23)
              else
                cl (fX2_putInto a1 m21 (m21 295 4) x20) <| fun r25 m24 =>
                lt (sto m24 295 4 r25) <| fun m26 =>
                some ((1 : Int32), m26)) <| fun j136 =>
            if v4 = (0 : Int32) then
              j136 x19
            else
              lt (-x19) <| fun x27 =>
              j136 x27)
          a1 x1 v4 5000 m8 (0 : Int32) (0 : Int32)) <| fun j41 =>
    if v4 = (0 : Int32) then
      j41 m2
    else
      lt (sto m2 295 3 ((m2 295 3) + (1 : Int32))) <| fun m36 =>
      j41 m36) <| fun j26 =>
  if r3 = (45 : Int32) then
    j26 (1 : Int32)
  else
    j26 (0 : Int32)
def rmX5_numbers : Room := { frames := 2, cells := 0, slots := 0, locals := 49 }
def fX5_numbers_L10_b (k34 : Mem → Option (Int32 × Mem)) (k58 : Mem → Option (Int32 × Mem)) (k66 : Mem → Option (Int32 × Mem)) (q3 : Nat) (rec : Mem → Int32 → Option (Int32 × Mem)) (m2 : Mem) (x4 : Int32) : Option (Int32 × Mem) :=
  if x4 < (m2 q3 6) then
    cl (fX0_at 281 m2 (m2 295 3)) <| fun r12 m11 =>
    if r12 = (32 : Int32) then
      lt (sto m11 295 3 ((m11 295 3) + (1 : Int32))) <| fun m13 =>
      cl (fX3_fieldAt q3 m13 x4) <| fun r15 m14 =>
      ck (isO 2 r15) <|
      cl (fX5_number m14 r15) <| fun r17 m16 =>
      if r17 = (0 : Int32) then
        k58 m16
      else
        rec m16 (x4 + (1 : Int32))
    else
      k34 m11
  else
    k66 m2
def fX5_numbers_L10 (k34 : Mem → Option (Int32 × Mem)) (k58 : Mem → Option (Int32 × Mem)) (k66 : Mem → Option (Int32 × Mem)) (q3 : Nat) : Nat → Mem → Int32 → Option (Int32 × Mem)
  | 0 => fun _ _ => none
  | n + 1 => fun m2 x4 => fX5_numbers_L10_b k34 k58 k66 q3 (fX5_numbers_L10 k34 k58 k66 q3 n) m2 x4
def fX5_numbers (m0 : Mem) (a1 : Nat) : Option (Int32 × Mem) :=
  lt (sto m0 295 4 (m0 a1 3)) <| fun m1 =>
  fX5_numbers_L10
    (fun (m6 : Mem) =>
      some ((0 : Int32), m6))
    (fun (m8 : Mem) =>
      some ((0 : Int32), m8))
    (fun (m10 : Mem) =>
      some ((1 : Int32), m10))
    a1 5000 m1 (0 : Int32)
def rmX6_meaningAmong : Room := { frames := 0, cells := 0, slots := 0, locals := 0 }
def fX6_meaningAmong_L9_b (k47 : Int32 → Option (Int32 × Mem)) (k55 : Option (Int32 × Mem)) (m1 : Mem) (y2 : Int32) (rec : Int32 → Option (Int32 × Mem)) (x3 : Int32) : Option (Int32 × Mem) :=
  if x3 < (m1 9 1) then
    lt ((1 : Int32) <<< (x3 &&& 31)) <| fun x6 =>
    lt (α := Option (Int32 × Mem)) (
      rec (x3 + (1 : Int32))) <| fun j49 =>
    if (y2 &&& x6) = (0 : Int32) then
      j49
    else
      ck (inb x3 12) <|
      if ((y2 &&& (x6 ^^^ (-1 : Int32))) &&& ((m1 277 (ix x3)) ^^^ (-1 : Int32))) = (0 : Int32) then
        k47 x3
      else
        j49
  else
    k55
def fX6_meaningAmong_L9 (k47 : Int32 → Option (Int32 × Mem)) (k55 : Option (Int32 × Mem)) (m1 : Mem) (y2 : Int32) : Nat → Int32 → Option (Int32 × Mem)
  | 0 => fun _ => none
  | n + 1 => fun x3 => fX6_meaningAmong_L9_b k47 k55 m1 y2 (fX6_meaningAmong_L9 k47 k55 m1 y2 n) x3
def fX6_meaningAmong (m0 : Mem) (a1 : Int32) : Option (Int32 × Mem) :=
  if a1 = (0 : Int32) then
    some ((12 : Int32), m0)
  else
    fX6_meaningAmong_L9
      (fun (x5 : Int32) =>
        some (x5, m0))
      (
        some ((13 : Int32), m0))
      m0 a1 5000 (0 : Int32)
def rmX6_knownOf : Room := { frames := 3, cells := 0, slots := 0, locals := 69 }
def fX6_knownOf_L20_b (k62 : Mem → Int32 → Option (Int32 × Mem)) (y4 : Int32) (rec : Mem → Int32 → Int32 → Option (Int32 × Mem)) (m3 : Mem) (x5 : Int32) (x6 : Int32) : Option (Int32 × Mem) :=
  if x6 < (m3 9 1) then
    ck (inb x6 12) <|
    cl (fX3_doesFit (11 + 22 * ix x6) m3 y4) <| fun r16 m15 =>
    lt (fun (x17 : Int32) =>
      rec m15 x17 (x6 + (1 : Int32))) <| fun j56 =>
    if r16 = (0 : Int32) then
      j56 x5
    else
      lt (x5 ||| ((1 : Int32) <<< (x6 &&& 31))) <| fun x18 =>
      j56 x18
  else
    k62 m3 x5
def fX6_knownOf_L20 (k62 : Mem → Int32 → Option (Int32 × Mem)) (y4 : Int32) : Nat → Mem → Int32 → Int32 → Option (Int32 × Mem)
  | 0 => fun _ _ _ => none
  | n + 1 => fun m3 x5 x6 => fX6_knownOf_L20_b k62 y4 (fX6_knownOf_L20 k62 y4 n) m3 x5 x6
def fX6_knownOf (m0 : Mem) (a1 : Int32) : Option (Int32 × Mem) :=
  lt (a1 &&& (4095 : Int32)) <| fun x1 =>
  ck (inb x1 4096) <|
  lt (fun (m2 : Mem) =>
    ck (inb x1 4096) <|
    some ((m2 276 (ix x1)), m2)) <| fun j80 =>
  if (m0 276 (ix x1)) = (0 : Int32) then
    fX6_knownOf_L20
      (fun (m9 : Mem) (x10 : Int32) =>
        cl (fX6_meaningAmong m9 x10) <| fun r12 m11 =>
        ck (inb x1 4096) <|
        lt (sto m11 276 (ix x1) ((((1 : Int32) + r12) <<< ((12 : Int32) &&& 31)) ||| x10)) <| fun m13 =>
        j80 m13)
      x1 5000 m0 (0 : Int32) (0 : Int32)
  else
    j80 m0
def rmX6_meaningOf : Room := { frames := 4, cells := 0, slots := 0, locals := 93 }
def fX6_meaningOf (m0 : Mem) (a1 : Int32) : Option (Int32 × Mem) :=
  cl (fX6_knownOf m0 a1) <| fun r2 m1 =>
  some (((r2 >>> ((12 : Int32) &&& 31)) - (1 : Int32)), m1)
def rmX5_wordOrFault : Room := { frames := 5, cells := 0, slots := 0, locals := 114 }
def fX5_wordOrFault (m0 : Mem) : Option (Int32 × Mem) :=
  lt (sto m0 295 3 (0 : Int32)) <| fun m1 =>
  cl (fX5_formNamed m1) <| fun r3 m2 =>
  cl (fX4_has m2 r3) <| fun r5 m4 =>
  lt (fun (m6 : Mem) =>
    some (((-10 : Int32) - (m6 295 3)), m6)) <| fun j51 =>
  if r5 = (0 : Int32) then
    j51 m4
  else
    ck (inb r3 12) <|
    cl (fX5_numbers m4 (11 + 22 * ix r3)) <| fun r9 m8 =>
    if r9 = (0 : Int32) then
      j51 m8
    else
      if (m8 295 3) < (m8 281 1) then
        j51 m8
      else
        cl (fX6_meaningOf m8 (m8 295 4)) <| fun r11 m10 =>
        if r11 = r3 then
          some ((m10 295 4), m10)
        else
          some (((-10 : Int32) - ((m10 281 1) + (1 : Int32))), m10)
def rmJ7_fill_53178 : Room := { frames := 0, cells := 0, slots := 0, locals := 0 }
def fJ7_fill_53178_L5_b (k20 : Mem → Option (Unit × Mem)) (q3 : Nat) (y4 : Int32) (y6 : Int32) (rec : Mem → Int32 → Option (Unit × Mem)) (m2 : Mem) (x5 : Int32) : Option (Unit × Mem) :=
  if x5 < y6 then
    ck (inb x5 (al q3)) <|
    lt (sto m2 q3 (ix x5) y4) <| fun m9 =>
    rec m9 (x5 + (1 : Int32))
  else
    k20 m2
def fJ7_fill_53178_L5 (k20 : Mem → Option (Unit × Mem)) (q3 : Nat) (y4 : Int32) (y6 : Int32) : Nat → Mem → Int32 → Option (Unit × Mem)
  | 0 => fun _ _ => none
  | n + 1 => fun m2 x5 => fJ7_fill_53178_L5_b k20 q3 y4 y6 (fJ7_fill_53178_L5 k20 q3 y4 y6 n) m2 x5
def fJ7_fill_53178 (m0 : Mem) (a0 : Nat) (a1 : Int32) : Option (Unit × Mem) :=
  lt (Int32.ofNat (al a0)) <| fun x1 =>
  fJ7_fill_53178_L5
    (fun (m8 : Mem) =>
      some ((), m8))
    a0 a1 x1 5000 m0 (0 : Int32)
def rmX6_forget : Room := { frames := 1, cells := 0, slots := 0, locals := 23 }
def fX6_forget_L35_b (k88 : Mem → Option (Unit × Mem)) (y9 : Int32) (rec : Mem → Int32 → Option (Unit × Mem)) (m8 : Mem) (x10 : Int32) : Option (Unit × Mem) :=
  if x10 < (m8 9 1) then
    ck (inb y9 12) <|
    ck (inb x10 12) <|
    cl (fX3_isOver (11 + 22 * ix y9) m8 (11 + 22 * ix x10)) <| fun r16 m15 =>
    lt (fun (m17 : Mem) =>
      rec m17 (x10 + (1 : Int32))) <| fun j82 =>
    if r16 = (0 : Int32) then
      j82 m15
    else
      ck (inb y9 12) <|
      ck (inb y9 12) <|
      lt (sto m15 277 (ix y9) ((m15 277 (ix y9)) ||| ((1 : Int32) <<< (x10 &&& 31)))) <| fun m18 =>
      j82 m18
  else
    k88 m8
def fX6_forget_L35 (k88 : Mem → Option (Unit × Mem)) (y9 : Int32) : Nat → Mem → Int32 → Option (Unit × Mem)
  | 0 => fun _ _ => none
  | n + 1 => fun m8 x10 => fX6_forget_L35_b k88 y9 (fX6_forget_L35 k88 y9 n) m8 x10
def fX6_forget_L15_b (k94 : Mem → Option (Unit × Mem))  (rec : Mem → Int32 → Option (Unit × Mem)) (m3 : Mem) (x4 : Int32) : Option (Unit × Mem) :=
  if x4 < (m3 9 1) then
    ck (inb x4 12) <|
    lt (sto m3 277 (ix x4) (0 : Int32)) <| fun m7 =>
    fX6_forget_L35
      (fun (m12 : Mem) =>
        rec m12 (x4 + (1 : Int32)))
      x4 5000 m7 (0 : Int32)
  else
    k94 m3
def fX6_forget_L15 (k94 : Mem → Option (Unit × Mem))  : Nat → Mem → Int32 → Option (Unit × Mem)
  | 0 => fun _ _ => none
  | n + 1 => fun m3 x4 => fX6_forget_L15_b k94  (fX6_forget_L15 k94  n) m3 x4
def fX6_forget (m0 : Mem) : Option (Unit × Mem) :=
  cl (fJ7_fill_53178 m0 276 (0 : Int32)) <| fun _ m1 =>
  lt (sto m1 275 3 (0 : Int32)) <| fun m2 =>
  fX6_forget_L15
    (fun (m6 : Mem) =>
      some ((), m6))
    5000 m2 (0 : Int32)
def rmX6_fittingOf : Room := { frames := 4, cells := 0, slots := 0, locals := 93 }
def fX6_fittingOf (m0 : Mem) (a1 : Int32) : Option (Int32 × Mem) :=
  cl (fX6_knownOf m0 a1) <| fun r2 m1 =>
  some ((r2 &&& (4095 : Int32)), m1)
def rmX6_noteClashes : Room := { frames := 0, cells := 0, slots := 0, locals := 0 }
def fX6_noteClashes_L47_b (k104 : Mem → Option (Unit × Mem)) (y10 : Int32) (y11 : Int32) (y12 : Int32) (y13 : Int32) (rec : Mem → Int32 → Option (Unit × Mem)) (m9 : Mem) (x14 : Int32) : Option (Unit × Mem) :=
  if x14 < (m9 9 1) then
    if y13 = (0 : Int32) then
      k104 m9
    else
      lt (fun (m18 : Mem) =>
        rec m18 (x14 + (1 : Int32))) <| fun j98 =>
      if ((y13 >>> (x14 &&& 31)) &&& (1 : Int32)) = (1 : Int32) then
        ck (inb (((16 : Int32) * y12) + x14) 192) <|
        lt (sto m9 280 (ix (((16 : Int32) * y12) + x14)) y10) <| fun m19 =>
        lt (sto m19 275 7 ((m19 275 7) + (1 : Int32))) <| fun m20 =>
        j98 m20
      else
        j98 m9
  else
    k104 m9
def fX6_noteClashes_L47 (k104 : Mem → Option (Unit × Mem)) (y10 : Int32) (y11 : Int32) (y12 : Int32) (y13 : Int32) : Nat → Mem → Int32 → Option (Unit × Mem)
  | 0 => fun _ _ => none
  | n + 1 => fun m9 x14 => fX6_noteClashes_L47_b k104 y10 y11 y12 y13 (fX6_noteClashes_L47 k104 y10 y11 y12 y13 n) m9 x14
def fX6_noteClashes_L2_b (k121 : Mem → Option (Unit × Mem)) (y2 : Int32) (y3 : Int32) (rec : Mem → Int32 → Option (Unit × Mem)) (m1 : Mem) (x4 : Int32) : Option (Unit × Mem) :=
  if x4 < (m1 9 1) then
    lt (fun (v7 : Int32) =>
      lt (x4 + (1 : Int32)) <| fun x8 =>
      fX6_noteClashes_L47
        (fun (m16 : Mem) =>
          ck (inb x4 12) <|
          ck (inb x4 12) <|
          lt (sto m16 279 (ix x4) ((m16 279 (ix x4)) ||| v7)) <| fun m17 =>
          rec m17 (x4 + (1 : Int32)))
        y2 y3 x4 v7 5000 m1 x8) <| fun j40 =>
    if ((y3 >>> (x4 &&& 31)) &&& (1 : Int32)) = (0 : Int32) then
      j40 (0 : Int32)
    else
      ck (inb x4 12) <|
      j40 ((y3 &&& (-((2 : Int32) <<< (x4 &&& 31)))) &&& ((m1 279 (ix x4)) ^^^ (-1 : Int32)))
  else
    k121 m1
def fX6_noteClashes_L2 (k121 : Mem → Option (Unit × Mem)) (y2 : Int32) (y3 : Int32) : Nat → Mem → Int32 → Option (Unit × Mem)
  | 0 => fun _ _ => none
  | n + 1 => fun m1 x4 => fX6_noteClashes_L2_b k121 y2 y3 (fX6_noteClashes_L2 k121 y2 y3 n) m1 x4
def fX6_noteClashes (m0 : Mem) (a1 : Int32) (a2 : Int32) : Option (Unit × Mem) :=
  fX6_noteClashes_L2
    (fun (m6 : Mem) =>
      some ((), m6))
    a1 a2 5000 m0 (0 : Int32)
def rmX6_goThrough : Room := { frames := 5, cells := 0, slots := 0, locals := 114 }
def fX6_goThrough_L31_b (k86 : Mem → Option (Unit × Mem))  (rec : Mem → Int32 → Option (Unit × Mem)) (m4 : Mem) (x5 : Int32) : Option (Unit × Mem) :=
  if x5 < (4096 : Int32) then
    cl (fX6_meaningOf m4 x5) <| fun r10 m9 =>
    cl (fX10_within m9 r10 (0 : Int32) (13 : Int32)) <| fun r12 m11 =>
    lt (fun (m13 : Mem) =>
      lt (fun (m14 : Mem) =>
        rec m14 (x5 + (1 : Int32))) <| fun j80 =>
      if r10 = (13 : Int32) then
        cl (fX6_fittingOf m13 x5) <| fun r16 m15 =>
        cl (fX6_noteClashes m15 x5 r16) <| fun _ m17 =>
        j80 m17
      else
        j80 m13) <| fun j64 =>
    if r12 = (0 : Int32) then
      j64 m11
    else
      ck (inb r10 14) <|
      ck (inb r10 14) <|
      lt (sto m11 278 (ix r10) ((m11 278 (ix r10)) + (1 : Int32))) <| fun m18 =>
      j64 m18
  else
    k86 m4
def fX6_goThrough_L31 (k86 : Mem → Option (Unit × Mem))  : Nat → Mem → Int32 → Option (Unit × Mem)
  | 0 => fun _ _ => none
  | n + 1 => fun m4 x5 => fX6_goThrough_L31_b k86  (fX6_goThrough_L31 k86  n) m4 x5
def fX6_goThrough (m0 : Mem) : Option (Unit × Mem) :=
  if (m0 275 3) = (0 : Int32) then
    cl (fJ7_fill_53178 m0 278 (0 : Int32)) <| fun _ m1 =>
    cl (fJ7_fill_53178 m1 279 (0 : Int32)) <| fun _ m2 =>
    lt (sto m2 275 7 (0 : Int32)) <| fun m3 =>
    fX6_goThrough_L31
      (fun (m7 : Mem) =>
        lt (sto m7 275 3 (1 : Int32)) <| fun m8 =>
        some ((), m8))
      5000 m3 (0 : Int32)
  else
    some ((), m0)
def rmX6_clashingPair : Room := { frames := 0, cells := 0, slots := 0, locals := 0 }
def fX6_clashingPair_L28_b (k63 : Int32 → Option (Int32 × Mem)) (k82 : Int32 → Option (Int32 × Mem)) (m9 : Mem) (y11 : Int32) (rec : Int32 → Int32 → Option (Int32 × Mem)) (x10 : Int32) (x12 : Int32) : Option (Int32 × Mem) :=
  if x12 < (m9 9 1) then
    ck (inb y11 12) <|
    lt (((m9 279 (ix y11)) >>> (x12 &&& 31)) &&& (1 : Int32)) <| fun x17 =>
    lt (α := Option (Int32 × Mem)) (
      lt (x10 - x17) <| fun x18 =>
      rec x18 (x12 + (1 : Int32))) <| fun j71 =>
    if x17 = (1 : Int32) then
      if x10 = (0 : Int32) then
        k63 x12
      else
        j71
    else
      j71
  else
    k82 x10
def fX6_clashingPair_L28 (k63 : Int32 → Option (Int32 × Mem)) (k82 : Int32 → Option (Int32 × Mem)) (m9 : Mem) (y11 : Int32) : Nat → Int32 → Int32 → Option (Int32 × Mem)
  | 0 => fun _ _ => none
  | n + 1 => fun x10 x12 => fX6_clashingPair_L28_b k63 k82 m9 y11 (fX6_clashingPair_L28 k63 k82 m9 y11 n) x10 x12
def fX6_clashingPair_L4_b (k63 : Int32 → Int32 → Option (Int32 × Mem)) (k88 : Option (Int32 × Mem)) (m1 : Mem) (rec : Int32 → Int32 → Option (Int32 × Mem)) (x2 : Int32) (x3 : Int32) : Option (Int32 × Mem) :=
  if x3 < (m1 9 1) then
    if x2 < (m1 275 7) then
      lt (x3 + (1 : Int32)) <| fun x8 =>
      fX6_clashingPair_L28
        (fun (x14 : Int32) =>
          k63 x3 x14)
        (fun (x16 : Int32) =>
          rec x16 (x3 + (1 : Int32)))
        m1 x3 5000 x2 x8
    else
      k88
  else
    k88
def fX6_clashingPair_L4 (k63 : Int32 → Int32 → Option (Int32 × Mem)) (k88 : Option (Int32 × Mem)) (m1 : Mem) : Nat → Int32 → Int32 → Option (Int32 × Mem)
  | 0 => fun _ _ => none
  | n + 1 => fun x2 x3 => fX6_clashingPair_L4_b k63 k88 m1 (fX6_clashingPair_L4 k63 k88 m1 n) x2 x3
def fX6_clashingPair (m0 : Mem) (a1 : Int32) : Option (Int32 × Mem) :=
  fX6_clashingPair_L4
    (fun (x6 : Int32) (x7 : Int32) =>
      some ((((16 : Int32) * x6) + x7), m0))
    (
      some ((-1 : Int32), m0))
    m0 5000 a1 (0 : Int32)
def rmX6_deadForms : Room := { frames := 0, cells := 0, slots := 0, locals := 0 }
def fX6_deadForms_L4_b (k36 : Int32 → Option (Int32 × Mem)) (m1 : Mem) (rec : Int32 → Int32 → Option (Int32 × Mem)) (x2 : Int32) (x3 : Int32) : Option (Int32 × Mem) :=
  if x3 < (m1 9 1) then
    ck (inb x3 14) <|
    lt (fun (x6 : Int32) =>
      rec x6 (x3 + (1 : Int32))) <| fun j30 =>
    if (m1 278 (ix x3)) = (0 : Int32) then
      lt (x2 ||| ((1 : Int32) <<< (x3 &&& 31))) <| fun x7 =>
      j30 x7
    else
      j30 x2
  else
    k36 x2
def fX6_deadForms_L4 (k36 : Int32 → Option (Int32 × Mem)) (m1 : Mem) : Nat → Int32 → Int32 → Option (Int32 × Mem)
  | 0 => fun _ _ => none
  | n + 1 => fun x2 x3 => fX6_deadForms_L4_b k36 m1 (fX6_deadForms_L4 k36 m1 n) x2 x3
def fX6_deadForms (m0 : Mem) : Option (Int32 × Mem) :=
  fX6_deadForms_L4
    (fun (x5 : Int32) =>
      some (x5, m0))
    m0 5000 (0 : Int32) (0 : Int32)
def rmX10_kindOf : Room := { frames := 0, cells := 0, slots := 0, locals := 0 }
def fX10_kindOf_L2_b (k17 : Int32 → Option (Int32 × Mem)) (k25 : Option (Int32 × Mem)) (m1 : Mem) (y2 : Int32) (rec : Int32 → Option (Int32 × Mem)) (x3 : Int32) : Option (Int32 × Mem) :=
  if x3 < (7 : Int32) then
    ck (inb x3 7) <|
    if (sV 1 (ix x3)) = y2 then
      k17 x3
    else
      rec (x3 + (1 : Int32))
  else
    k25
def fX10_kindOf_L2 (k17 : Int32 → Option (Int32 × Mem)) (k25 : Option (Int32 × Mem)) (m1 : Mem) (y2 : Int32) : Nat → Int32 → Option (Int32 × Mem)
  | 0 => fun _ => none
  | n + 1 => fun x3 => fX10_kindOf_L2_b k17 k25 m1 y2 (fX10_kindOf_L2 k17 k25 m1 y2 n) x3
def fX10_kindOf (m0 : Mem) (a0 : Int32) : Option (Int32 × Mem) :=
  fX10_kindOf_L2
    (fun (x5 : Int32) =>
      some (x5, m0))
    (
      some ((-1 : Int32), m0))
    m0 a0 5000 (0 : Int32)
def rmX7_kind : Room := { frames := 1, cells := 0, slots := 0, locals := 21 }
def fX7_kind (m0 : Mem) (a1 : Nat) : Option (Int32 × Mem) :=
  cl (fX0_at 281 m0 (m0 294 2)) <| fun r2 m1 =>
  cl (fX10_kindOf m1 r2) <| fun r4 m3 =>
  lt (sto m3 a1 0 r4) <| fun m5 =>
  if (m5 a1 0) = (-1 : Int32) then
    some ((0 : Int32), m5)
  else
    lt (sto m5 294 2 ((m5 294 2) + (1 : Int32))) <| fun m6 =>
    some ((1 : Int32), m6)
def rmX7_name : Room := { frames := 1, cells := 0, slots := 0, locals := 23 }
def fX7_name_L4_b (k62 : Mem → Int32 → Option (Int32 × Mem)) (q2 : Nat) (rec : Mem → Int32 → Int32 → Option (Int32 × Mem)) (m1 : Mem) (x3 : Int32) (x4 : Int32) : Option (Int32 × Mem) :=
  if x4 < (3 : Int32) then
    cl (fX0_at 281 m1 (m1 294 2)) <| fun r13 m12 =>
    cl (fX10_within m12 r13 (97 : Int32) (122 : Int32)) <| fun r15 m14 =>
    if r15 = (0 : Int32) then
      k62 m14 x3
    else
      cl (fX0_at 281 m14 (m14 294 2)) <| fun r17 m16 =>
      cl (fX10_withSign m16 x3 r17) <| fun r19 m18 =>
      lt (sto m18 294 2 ((m18 294 2) + (1 : Int32))) <| fun m20 =>
      rec m20 r19 (x4 + (1 : Int32))
  else
    k62 m1 x3
def fX7_name_L4 (k62 : Mem → Int32 → Option (Int32 × Mem)) (q2 : Nat) : Nat → Mem → Int32 → Int32 → Option (Int32 × Mem)
  | 0 => fun _ _ _ => none
  | n + 1 => fun m1 x3 x4 => fX7_name_L4_b k62 q2 (fX7_name_L4 k62 q2 n) m1 x3 x4
def fX7_name (m0 : Mem) (a1 : Nat) : Option (Int32 × Mem) :=
  fX7_name_L4
    (fun (m7 : Mem) (x8 : Int32) =>
      if x8 = (0 : Int32) then
        some ((0 : Int32), m7)
      else
        cl (fX4_find m7 x8 (m7 294 3)) <| fun r10 m9 =>
        if r10 = (-1 : Int32) then
          lt (sto m9 a1 1 x8) <| fun m11 =>
          some ((1 : Int32), m11)
        else
          some ((0 : Int32), m9))
    a1 5000 m0 (0 : Int32) (0 : Int32)
def rmX7_sign : Room := { frames := 1, cells := 0, slots := 0, locals := 21 }
def fX7_sign (m0 : Mem) (a1 : Int32) : Option (Int32 × Mem) :=
  cl (fX0_at 281 m0 (m0 294 2)) <| fun r2 m1 =>
  if r2 = a1 then
    lt (sto m1 294 2 ((m1 294 2) + (1 : Int32))) <| fun m3 =>
    some ((1 : Int32), m3)
  else
    some ((0 : Int32), m1)
def rmX7_pattern : Room := { frames := 2, cells := 0, slots := 0, locals := 44 }
def fX7_pattern_L3_b (k26 : Mem → Option (Int32 × Mem)) (k44 : Mem → Option (Int32 × Mem)) (q2 : Nat) (rec : Mem → Int32 → Option (Int32 × Mem)) (m1 : Mem) (x3 : Int32) : Option (Int32 × Mem) :=
  if x3 < (0 : Int32) then
    k44 m1
  else
    cl (fX0_at 281 m1 (m1 294 2)) <| fun r9 m8 =>
    cl (fX3_addSign q2 m8 r9 x3) <| fun r11 m10 =>
    if r11 = (0 : Int32) then
      k26 m10
    else
      lt (sto m10 294 2 ((m10 294 2) + (1 : Int32))) <| fun m12 =>
      rec m12 (x3 + (-1 : Int32))
def fX7_pattern_L3 (k26 : Mem → Option (Int32 × Mem)) (k44 : Mem → Option (Int32 × Mem)) (q2 : Nat) : Nat → Mem → Int32 → Option (Int32 × Mem)
  | 0 => fun _ _ => none
  | n + 1 => fun m1 x3 => fX7_pattern_L3_b k26 k44 q2 (fX7_pattern_L3 k26 k44 q2 n) m1 x3
def fX7_pattern (m0 : Mem) (a1 : Nat) : Option (Int32 × Mem) :=
  fX7_pattern_L3
    (fun (m5 : Mem) =>
      some ((0 : Int32), m5))
    (fun (m7 : Mem) =>
      some ((1 : Int32), m7))
    a1 5000 m0 (11 : Int32)
def rmX7_letter : Room := { frames := 1, cells := 0, slots := 0, locals := 21 }
def fX7_letter (m0 : Mem) (a1 : Nat) : Option (Int32 × Mem) :=
  cl (fX0_at 281 m0 (m0 294 2)) <| fun r2 m1 =>
  cl (fX10_letterOf m1 r2) <| fun r4 m3 =>
  if r4 = (-1 : Int32) then
    some ((0 : Int32), m3)
  else
    ck (inb r4 8) <|
    if (m3 ((a1 + 1) + 5 + 2 * ix r4) 2) = (0 : Int32) then
      some ((0 : Int32), m3)
    else
      lt (sto m3 294 2 ((m3 294 2) + (1 : Int32))) <| fun m6 =>
      some ((1 : Int32), m6)
def rmX7_number : Room := { frames := 1, cells := 0, slots := 0, locals := 22 }
def fX7_number_L11_b (k72 : Mem → Int32 → Option (Int32 × Mem)) (y3 : Int32) (y4 : Int32) (y5 : Int32) (rec : Mem → Int32 → Int32 → Option (Int32 × Mem)) (m2 : Mem) (x6 : Int32) (x7 : Int32) : Option (Int32 × Mem) :=
  if x7 < (3 : Int32) then
    cl (fX0_at 281 m2 (m2 294 2)) <| fun r17 m16 =>
    cl (fX10_isDigit m16 r17) <| fun r19 m18 =>
    if r19 = (0 : Int32) then
      k72 m18 x6
    else
      cl (fX0_at 281 m18 (m18 294 2)) <| fun r21 m20 =>
      lt ((((10 : Int32) * x6) + r21) - (48 : Int32)) <| fun x22 =>
      lt (sto m20 294 2 ((m20 294 2) + (1 : Int32))) <| fun m23 =>
      rec m23 x22 (x7 + (1 : Int32))
  else
    k72 m2 x6
def fX7_number_L11 (k72 : Mem → Int32 → Option (Int32 × Mem)) (y3 : Int32) (y4 : Int32) (y5 : Int32) : Nat → Mem → Int32 → Int32 → Option (Int32 × Mem)
  | 0 => fun _ _ _ => none
  | n + 1 => fun m2 x6 x7 => fX7_number_L11_b k72 y3 y4 y5 (fX7_number_L11 k72 y3 y4 y5 n) m2 x6 x7
def fX7_number (m0 : Mem) (a1 : Int32) (a2 : Int32) : Option (Int32 × Mem) :=
  lt (m0 294 2) <| fun x1 =>
  fX7_number_L11
    (fun (m10 : Mem) (x11 : Int32) =>
      lt (fun (m12 : Mem) =>
        lt (sto m12 294 2 x1) <| fun m13 =>
        some ((-1 : Int32), m13)) <| fun j90 =>
      if (m10 294 2) = x1 then
        j90 m10
      else
        cl (fX10_within m10 x11 a1 a2) <| fun r15 m14 =>
        if r15 = (0 : Int32) then
          j90 m14
        else
          some (x11, m14))
    a1 a2 x1 5000 m0 (0 : Int32) (0 : Int32)
def rmX7_rule : Room := { frames := 2, cells := 0, slots := 0, locals := 47 }
def fX7_rule (m0 : Mem) (a1 : Nat) : Option (Int32 × Mem) :=
  cl (fX0_at 281 m0 (m0 294 2)) <| fun r2 m1 =>
  cl (fX10_letterOf m1 r2) <| fun r4 m3 =>
  cl (fX7_letter m3 a1) <| fun r6 m5 =>
  if r6 = (0 : Int32) then
    some ((0 : Int32), m5)
  else
    cl (fX0_at 281 m5 (m5 294 2)) <| fun r8 m7 =>
    lt (α := Option (Int32 × Mem)) (
      lt (sto m7 294 2 ((m7 294 2) + (1 : Int32))) <| fun m9 =>
      cl (fX0_at 281 m9 (m9 294 2)) <| fun r11 m10 =>
      cl (fX10_letterOf m10 r11) <| fun r13 m12 =>
      lt (fun (m14 : Mem) (x15 : Int32) =>
        cl (fX3_addRule a1 m14 r4 r8 x15) <| fun _ m16 =>
        some ((1 : Int32), m16)) <| fun j133 =>
      if r8 = (60 : Int32) then
        cl (fX7_letter m12 a1) <| fun r18 m17 =>
        if r18 = (0 : Int32) then
          some ((0 : Int32), m17)
        else
          j133 m17 r13
      else
        lt (fun (m19 : Mem) (v20 : Int32) =>
          if v20 = (-1 : Int32) then
            some ((0 : Int32), m19)
          else
            j133 m19 v20) <| fun j123 =>
        if r8 = (35 : Int32) then
          cl (fX7_number m12 (0 : Int32) (255 : Int32)) <| fun r22 m21 =>
          j123 m21 r22
        else
          cl (fX7_number m12 (2 : Int32) (9 : Int32)) <| fun r24 m23 =>
          j123 m23 r24) <| fun j57 =>
    if r8 = (35 : Int32) then
      j57
    else
      if r8 = (47 : Int32) then
        j57
      else
        if r8 = (60 : Int32) then
          j57
        else
          some ((0 : Int32), m7)
def rmX7_rules : Room := { frames := 3, cells := 0, slots := 0, locals := 71 }
def fX7_rules_L2_b (k41 : Mem → Option (Int32 × Mem)) (k49 : Mem → Option (Int32 × Mem)) (q2 : Nat) (rec : Mem → Int32 → Option (Int32 × Mem)) (m1 : Mem) (x3 : Int32) : Option (Int32 × Mem) :=
  if x3 < (3 : Int32) then
    cl (fX0_at 281 m1 (m1 294 2)) <| fun r9 m8 =>
    if r9 = (44 : Int32) then
      lt (sto m8 294 2 ((m8 294 2) + (1 : Int32))) <| fun m10 =>
      cl (fX7_rule m10 q2) <| fun r12 m11 =>
      if r12 = (0 : Int32) then
        k41 m11
      else
        rec m11 (x3 + (1 : Int32))
    else
      k49 m8
  else
    k49 m1
def fX7_rules_L2 (k41 : Mem → Option (Int32 × Mem)) (k49 : Mem → Option (Int32 × Mem)) (q2 : Nat) : Nat → Mem → Int32 → Option (Int32 × Mem)
  | 0 => fun _ _ => none
  | n + 1 => fun m1 x3 => fX7_rules_L2_b k41 k49 q2 (fX7_rules_L2 k41 k49 q2 n) m1 x3
def fX7_rules (m0 : Mem) (a1 : Nat) : Option (Int32 × Mem) :=
  fX7_rules_L2
    (fun (m5 : Mem) =>
      some ((0 : Int32), m5))
    (fun (m7 : Mem) =>
      some ((1 : Int32), m7))
    a1 5000 m0 (0 : Int32)
def rmX7_statement : Room := { frames := 4, cells := 0, slots := 0, locals := 93 }
def fX7_statement (m0 : Mem) : Option (Int32 × Mem) :=
  if (m0 294 3) < (12 : Int32) then
    ck (inb (m0 294 3) 12) <|
    cl (fX3_clear (11 + 22 * ix (m0 294 3)) m0) <| fun _ m2 =>
    cl (fX7_kind m2 (11 + 22 * ix (m0 294 3))) <| fun r4 m3 =>
    if r4 = (0 : Int32) then
      some ((0 : Int32), m3)
    else
      cl (fX7_name m3 (11 + 22 * ix (m0 294 3))) <| fun r6 m5 =>
      if r6 = (0 : Int32) then
        some ((0 : Int32), m5)
      else
        cl (fX7_sign m5 (58 : Int32)) <| fun r8 m7 =>
        if r8 = (0 : Int32) then
          some ((0 : Int32), m7)
        else
          cl (fX7_pattern m7 (11 + 22 * ix (m0 294 3))) <| fun r10 m9 =>
          if r10 = (0 : Int32) then
            some ((0 : Int32), m9)
          else
            cl (fX7_rules m9 (11 + 22 * ix (m0 294 3))) <| fun r12 m11 =>
            if r12 = (0 : Int32) then
              some ((0 : Int32), m11)
            else
              some ((1 : Int32), m11)
  else
    some ((0 : Int32), m0)
def rmX7_fault : Room := { frames := 5, cells := 0, slots := 0, locals := 114 }
def fX7_fault_L18_b (k31 : Mem → Option (Int32 × Mem)) (k60 : Mem → Option (Int32 × Mem)) (k82 : Mem → Option (Int32 × Mem)) (k93 : Mem → Option (Int32 × Mem))  (rec : Mem → Int32 → Option (Int32 × Mem)) (m3 : Mem) (x4 : Int32) : Option (Int32 × Mem) :=
  if (12 : Int32) < x4 then
    k93 m3
  else
    cl (fX7_statement m3) <| fun r15 m14 =>
    if r15 = (0 : Int32) then
      k31 m14
    else
      lt (sto m14 294 3 ((m14 294 3) + (1 : Int32))) <| fun m16 =>
      if (m16 294 2) = (m16 281 1) then
        k60 m16
      else
        cl (fX7_sign m16 (59 : Int32)) <| fun r18 m17 =>
        if r18 = (0 : Int32) then
          k82 m17
        else
          rec m17 (x4 + (1 : Int32))
def fX7_fault_L18 (k31 : Mem → Option (Int32 × Mem)) (k60 : Mem → Option (Int32 × Mem)) (k82 : Mem → Option (Int32 × Mem)) (k93 : Mem → Option (Int32 × Mem))  : Nat → Mem → Int32 → Option (Int32 × Mem)
  | 0 => fun _ _ => none
  | n + 1 => fun m3 x4 => fX7_fault_L18_b k31 k60 k82 k93  (fX7_fault_L18 k31 k60 k82 k93  n) m3 x4
def fX7_fault (m0 : Mem) : Option (Int32 × Mem) :=
  lt (sto m0 294 2 (0 : Int32)) <| fun m1 =>
  lt (sto m1 294 3 (m1 9 1)) <| fun m2 =>
  fX7_fault_L18
    (fun (m6 : Mem) =>
      some ((m6 294 2), m6))
    (fun (m8 : Mem) =>
      lt (sto m8 9 1 (m8 294 3)) <| fun m9 =>
      some ((-1 : Int32), m9))
    (fun (m11 : Mem) =>
      some ((m11 294 2), m11))
    (fun (m13 : Mem) =>
      some ((m13 294 2), m13))
    5000 m2 (0 : Int32)
def rmX8_lookAtForms : Room := { frames := 0, cells := 0, slots := 0, locals := 0 }
def fX8_lookAtForms_L24_b (k96 : Mem → Option (Unit × Mem)) (y8 : Int32) (rec : Mem → Int32 → Option (Unit × Mem)) (m7 : Mem) (x9 : Int32) : Option (Unit × Mem) :=
  if x9 < (m7 9 1) then
    ck (inb x9 12) <|
    ck (inb y8 12) <|
    ck (inb y8 12) <|
    lt (sto m7 288 (ix y8) ((m7 288 (ix y8)) ||| ((((m7 (11 + 22 * ix x9) 3) >>> (y8 &&& 31)) &&& (1 : Int32)) <<< (x9 &&& 31)))) <| fun m13 =>
    ck (inb y8 12) <|
    ck (inb y8 12) <|
    lt (sto m13 289 (ix y8) ((m13 289 (ix y8)) ||| (((((m13 (11 + 22 * ix x9) 2) &&& ((m13 (11 + 22 * ix x9) 3) ^^^ (-1 : Int32))) >>> (y8 &&& 31)) &&& (1 : Int32)) <<< (x9 &&& 31)))) <| fun m14 =>
    rec m14 (x9 + (1 : Int32))
  else
    k96 m7
def fX8_lookAtForms_L24 (k96 : Mem → Option (Unit × Mem)) (y8 : Int32) : Nat → Mem → Int32 → Option (Unit × Mem)
  | 0 => fun _ _ => none
  | n + 1 => fun m7 x9 => fX8_lookAtForms_L24_b k96 y8 (fX8_lookAtForms_L24 k96 y8 n) m7 x9
def fX8_lookAtForms_L2_b (k102 : Mem → Option (Unit × Mem))  (rec : Mem → Int32 → Option (Unit × Mem)) (m1 : Mem) (x2 : Int32) : Option (Unit × Mem) :=
  if x2 < (12 : Int32) then
    ck (inb x2 12) <|
    lt (sto m1 288 (ix x2) (0 : Int32)) <| fun m5 =>
    ck (inb x2 12) <|
    lt (sto m5 289 (ix x2) (0 : Int32)) <| fun m6 =>
    fX8_lookAtForms_L24
      (fun (m11 : Mem) =>
        rec m11 (x2 + (1 : Int32)))
      x2 5000 m6 (0 : Int32)
  else
    k102 m1
def fX8_lookAtForms_L2 (k102 : Mem → Option (Unit × Mem))  : Nat → Mem → Int32 → Option (Unit × Mem)
  | 0 => fun _ _ => none
  | n + 1 => fun m1 x2 => fX8_lookAtForms_L2_b k102  (fX8_lookAtForms_L2 k102  n) m1 x2
def fX8_lookAtForms (m0 : Mem) : Option (Unit × Mem) :=
  fX8_lookAtForms_L2
    (fun (m4 : Mem) =>
      some ((), m4))
    5000 m0 (0 : Int32)
def rmX8_isUseful : Room := { frames := 0, cells := 0, slots := 0, locals := 0 }
def fX8_isUseful (m0 : Mem) (a1 : Int32) (a2 : Int32) : Option (Int32 × Mem) :=
  ck (inb a1 12) <|
  ck (inb a1 12) <|
  if (a2 &&& ((m0 288 (ix a1)) ||| (m0 289 (ix a1)))) = (0 : Int32) then
    some ((0 : Int32), m0)
  else
    some ((1 : Int32), m0)
def rmJ6_bitCount_0f7a4 : Room := { frames := 0, cells := 0, slots := 0, locals := 0 }
def fJ6_bitCount_0f7a4 (m0 : Mem) (a0 : Int32) : Option (Int32 × Mem) :=
  lt (a0 - ((iushr a0 (1 : Int32)) &&& (1431655765 : Int32))) <| fun x1 =>
  lt ((x1 &&& (858993459 : Int32)) + ((iushr x1 (2 : Int32)) &&& (858993459 : Int32))) <| fun x2 =>
  lt ((x2 + (iushr x2 (4 : Int32))) &&& (252645135 : Int32)) <| fun x3 =>
  lt (x3 + (iushr x3 (8 : Int32))) <| fun x4 =>
  lt (x4 + (iushr x4 (16 : Int32))) <| fun x5 =>
  some ((x5 &&& (63 : Int32)), m0)
def rmX8_greedyBit : Room := { frames := 1, cells := 0, slots := 0, locals := 30 }
def fX8_greedyBit_L12_b (k130 : Mem → Int32 → Option (Int32 × Mem)) (y2 : Int32) (y3 : Int32) (rec : Mem → Int32 → Int32 → Int32 → Int32 → Option (Int32 × Mem)) (m1 : Mem) (x4 : Int32) (x5 : Int32) (x6 : Int32) (x7 : Int32) : Option (Int32 × Mem) :=
  if x7 < (0 : Int32) then
    k130 m1 x4
  else
    lt (fun (m12 : Mem) (x13 : Int32) (x14 : Int32) (x15 : Int32) =>
      rec m12 x13 x14 x15 (x7 + (-1 : Int32))) <| fun j124 =>
    if ((y2 >>> (x7 &&& 31)) &&& (1 : Int32)) = (0 : Int32) then
      j124 m1 x4 x5 x6
    else
      cl (fX8_isUseful m1 x7 y3) <| fun r17 m16 =>
      if r17 = (0 : Int32) then
        j124 m16 x4 x5 x6
      else
        ck (inb x7 12) <|
        cl (fJ6_bitCount_0f7a4 m16 (y3 &&& ((m16 288 (ix x7)) ^^^ (-1 : Int32)))) <| fun r19 m18 =>
        ck (inb x7 12) <|
        cl (fJ6_bitCount_0f7a4 m18 (y3 &&& ((m18 289 (ix x7)) ^^^ (-1 : Int32)))) <| fun r21 m20 =>
        lt (imax r19 r21) <| fun x22 =>
        lt (r19 + r21) <| fun x23 =>
        lt (α := Option (Int32 × Mem)) (
          j124 m20 x7 x22 x23) <| fun j113 =>
        if x4 = (-1 : Int32) then
          j113
        else
          if x22 < x5 then
            j113
          else
            if x22 = x5 then
              if x23 < x6 then
                j113
              else
                j124 m20 x4 x5 x6
            else
              j124 m20 x4 x5 x6
def fX8_greedyBit_L12 (k130 : Mem → Int32 → Option (Int32 × Mem)) (y2 : Int32) (y3 : Int32) : Nat → Mem → Int32 → Int32 → Int32 → Int32 → Option (Int32 × Mem)
  | 0 => fun _ _ _ _ _ => none
  | n + 1 => fun m1 x4 x5 x6 x7 => fX8_greedyBit_L12_b k130 y2 y3 (fX8_greedyBit_L12 k130 y2 y3 n) m1 x4 x5 x6 x7
def fX8_greedyBit (m0 : Mem) (a1 : Int32) (a2 : Int32) : Option (Int32 × Mem) :=
  fX8_greedyBit_L12
    (fun (m10 : Mem) (x11 : Int32) =>
      some (x11, m10))
    a1 a2 5000 m0 (-1 : Int32) (0 : Int32) (0 : Int32) (11 : Int32)
def rmX8_grow (d : Nat) : Room := { frames := 10 + d, cells := 0, slots := 0, locals := 600 + 100 * d }
def fX8_grow_b (self : Mem → Int32 → Int32 → Int32 → Option (Unit × Mem)) (m0 : Mem) (a1 : Int32) (a2 : Int32) (a3 : Int32) : Option (Unit × Mem) :=
  lt (fun (m1 : Mem) (v2 : Int32) =>
    if v2 = (-1 : Int32) then
      lt (sto m1 287 4 (imax (m1 287 4) a3)) <| fun m3 =>
      cl (fJ6_bitCount_0f7a4 m3 a2) <| fun r5 m4 =>
      lt (sto m4 287 5 (imax (m3 287 5) r5)) <| fun m6 =>
      some ((), m6)
    else
      lt (sto m1 287 3 ((m1 287 3) + (1 : Int32))) <| fun m7 =>
      lt (a1 &&& (((1 : Int32) <<< (v2 &&& 31)) ^^^ (-1 : Int32))) <| fun x8 =>
      ck (inb v2 12) <|
      cl (self m7 x8 (a2 &&& ((m7 288 (ix v2)) ^^^ (-1 : Int32))) (a3 + (1 : Int32))) <| fun _ m9 =>
      ck (inb v2 12) <|
      cl (self m9 x8 (a2 &&& ((m9 289 (ix v2)) ^^^ (-1 : Int32))) (a3 + (1 : Int32))) <| fun _ m10 =>
      some ((), m10)) <| fun j16 =>
  if a3 < (6 : Int32) then
    cl (fX8_greedyBit m0 a1 a2) <| fun r12 m11 =>
    j16 m11 r12
  else
    j16 m0 (-1 : Int32)
def fX8_grow : Nat → Mem → Int32 → Int32 → Int32 → Option (Unit × Mem)
  | 0 => fun _ _ _ _ => none
  | d + 1 => fun m0 a1 a2 a3 => fX8_grow_b (fX8_grow d) m0 a1 a2 a3
def rmX8_growGreedy : Room := { frames := 60, cells := 0, slots := 0, locals := 4000 }
def fX8_growGreedy (m0 : Mem) (a1 : Int32) : Option (Unit × Mem) :=
  cl (fX8_lookAtForms m0) <| fun _ m1 =>
  lt (sto m1 287 3 (0 : Int32)) <| fun m2 =>
  lt (sto m2 287 4 (0 : Int32)) <| fun m3 =>
  lt (sto m3 287 5 (0 : Int32)) <| fun m4 =>
  cl (fX4_allOfThem m4) <| fun r6 m5 =>
  cl (fX8_greedyBit m5 a1 r6) <| fun r8 m7 =>
  lt (sto m7 287 6 r8) <| fun m9 =>
  cl (fX4_allOfThem m9) <| fun r11 m10 =>
  cl (fX8_grow 8 m10 a1 r11 (0 : Int32)) <| fun _ m12 =>
  some ((), m12)
def rmX8_candidatesFor : Room := { frames := 2, cells := 0, slots := 0, locals := 60 }
def fX8_candidatesFor_L18_b (k40 : Mem → Int32 → Option (Int32 × Mem)) (k93 : Mem → Int32 → Option (Int32 × Mem)) (y5 : Int32) (rec : Mem → Int32 → Int32 → Int32 → Option (Int32 × Mem)) (m4 : Mem) (x6 : Int32) (x7 : Int32) (x8 : Int32) : Option (Int32 × Mem) :=
  if x8 < (6 : Int32) then
    cl (fX8_greedyBit m4 x6 x7) <| fun r18 m17 =>
    if r18 = (-1 : Int32) then
      k40 m17 x7
    else
      lt (x6 &&& (((1 : Int32) <<< (r18 &&& 31)) ^^^ (-1 : Int32))) <| fun x19 =>
      lt (fun (v20 : Int32) =>
        lt (x7 &&& v20) <| fun x21 =>
        rec m17 x19 x21 (x8 + (1 : Int32))) <| fun j84 =>
      if ((y5 >>> (r18 &&& 31)) &&& (1 : Int32)) = (0 : Int32) then
        ck (inb r18 12) <|
        j84 ((m17 288 (ix r18)) ^^^ (-1 : Int32))
      else
        ck (inb r18 12) <|
        j84 ((m17 289 (ix r18)) ^^^ (-1 : Int32))
  else
    k93 m4 x7
def fX8_candidatesFor_L18 (k40 : Mem → Int32 → Option (Int32 × Mem)) (k93 : Mem → Int32 → Option (Int32 × Mem)) (y5 : Int32) : Nat → Mem → Int32 → Int32 → Int32 → Option (Int32 × Mem)
  | 0 => fun _ _ _ _ => none
  | n + 1 => fun m4 x6 x7 x8 => fX8_candidatesFor_L18_b k40 k93 y5 (fX8_candidatesFor_L18 k40 k93 y5 n) m4 x6 x7 x8
def fX8_candidatesFor (m0 : Mem) (a1 : Int32) (a2 : Int32) : Option (Int32 × Mem) :=
  cl (fX8_lookAtForms m0) <| fun _ m1 =>
  cl (fX4_allOfThem m1) <| fun r3 m2 =>
  fX8_candidatesFor_L18
    (fun (m11 : Mem) (x12 : Int32) =>
      some (x12, m11))
    (fun (m15 : Mem) (x16 : Int32) =>
      some (x16, m15))
    a2 5000 m2 a1 r3 (0 : Int32)
def rmX8_fillStates : Room := { frames := 1, cells := 0, slots := 0, locals := 20 }
def fX8_fillStates_L44_b (k154 : Mem → Option (Unit × Mem)) (y13 : Int32) (y14 : Int32) (y15 : Int32) (y16 : Int32) (rec : Mem → Int32 → Option (Unit × Mem)) (m12 : Mem) (x17 : Int32) : Option (Unit × Mem) :=
  if x17 < y15 then
    ck (inb x17 729) <|
    ck (inb y16 12) <|
    ck (inb (x17 + y15) 729) <|
    lt (sto m12 291 (ix (x17 + y15)) ((m12 291 (ix x17)) &&& ((m12 288 (ix y16)) ^^^ (-1 : Int32)))) <| fun m20 =>
    ck (inb x17 729) <|
    ck (inb y16 12) <|
    ck (inb (x17 + ((2 : Int32) * y15)) 729) <|
    lt (sto m20 291 (ix (x17 + ((2 : Int32) * y15))) ((m20 291 (ix x17)) &&& ((m20 289 (ix y16)) ^^^ (-1 : Int32)))) <| fun m21 =>
    ck (inb x17 729) <|
    ck (inb (x17 + y15) 729) <|
    lt (sto m21 292 (ix (x17 + y15)) ((m21 292 (ix x17)) ||| ((1 : Int32) <<< (y16 &&& 31)))) <| fun m22 =>
    ck (inb x17 729) <|
    ck (inb (x17 + ((2 : Int32) * y15)) 729) <|
    lt (sto m22 292 (ix (x17 + ((2 : Int32) * y15))) ((m22 292 (ix x17)) ||| ((1 : Int32) <<< (y16 &&& 31)))) <| fun m23 =>
    rec m23 (x17 + (1 : Int32))
  else
    k154 m12
def fX8_fillStates_L44 (k154 : Mem → Option (Unit × Mem)) (y13 : Int32) (y14 : Int32) (y15 : Int32) (y16 : Int32) : Nat → Mem → Int32 → Option (Unit × Mem)
  | 0 => fun _ _ => none
  | n + 1 => fun m12 x17 => fX8_fillStates_L44_b k154 y13 y14 y15 y16 (fX8_fillStates_L44 k154 y13 y14 y15 y16 n) m12 x17
def fX8_fillStates_L22_b (k160 : Mem → Option (Unit × Mem)) (y6 : Int32) (rec : Mem → Int32 → Option (Unit × Mem)) (m5 : Mem) (x7 : Int32) : Option (Unit × Mem) :=
  if x7 < y6 then
    ck (inb x7 7) <|
    lt (sV 2 (ix x7)) <| fun x10 =>
    ck (inb x7 6) <|
    lt (m5 290 (ix x7)) <| fun x11 =>
    fX8_fillStates_L44
      (fun (m19 : Mem) =>
        rec m19 (x7 + (1 : Int32)))
      y6 x7 x10 x11 5000 m5 (0 : Int32)
  else
    k160 m5
def fX8_fillStates_L22 (k160 : Mem → Option (Unit × Mem)) (y6 : Int32) : Nat → Mem → Int32 → Option (Unit × Mem)
  | 0 => fun _ _ => none
  | n + 1 => fun m5 x7 => fX8_fillStates_L22_b k160 y6 (fX8_fillStates_L22 k160 y6 n) m5 x7
def fX8_fillStates (m0 : Mem) (a1 : Int32) : Option (Unit × Mem) :=
  cl (fX4_allOfThem m0) <| fun r2 m1 =>
  ck (inb (0 : Int32) 729) <|
  lt (sto m1 291 (ix (0 : Int32)) r2) <| fun m3 =>
  ck (inb (0 : Int32) 729) <|
  lt (sto m3 292 (ix (0 : Int32)) (0 : Int32)) <| fun m4 =>
  fX8_fillStates_L22
    (fun (m9 : Mem) =>
      some ((), m9))
    a1 5000 m4 (0 : Int32)
def rmX8_chooseLeast : Room := { frames := 1, cells := 0, slots := 0, locals := 22 }
def fX8_chooseLeast_L10_b (k120 : Mem → Int32 → Option (Unit × Mem)) (y3 : Int32) (y4 : Int32) (rec : Mem → Int32 → Int32 → Option (Unit × Mem)) (m2 : Mem) (x5 : Int32) (x6 : Int32) : Option (Unit × Mem) :=
  if x6 < y4 then
    ck (inb x6 6) <|
    lt (m2 290 (ix x6)) <| fun x12 =>
    ck (inb y3 729) <|
    lt (fun (m13 : Mem) (x14 : Int32) =>
      rec m13 x14 (x6 + (1 : Int32))) <| fun j114 =>
    if (((m2 292 (ix y3)) >>> (x12 &&& 31)) &&& (1 : Int32)) = (1 : Int32) then
      j114 m2 x5
    else
      ck (inb y3 729) <|
      cl (fX8_isUseful m2 x12 (m2 291 (ix y3))) <| fun r16 m15 =>
      if r16 = (0 : Int32) then
        j114 m15 x5
      else
        ck (inb x6 7) <|
        lt (sV 2 (ix x6)) <| fun x17 =>
        ck (inb (y3 + x17) 729) <|
        ck (inb (y3 + ((2 : Int32) * x17)) 729) <|
        lt (((1 : Int32) + (m15 293 (ix (y3 + x17)))) + (m15 293 (ix (y3 + ((2 : Int32) * x17))))) <| fun x18 =>
        lt (α := Option (Unit × Mem)) (
          lt (sto m15 287 6 x12) <| fun m19 =>
          j114 m19 x18) <| fun j105 =>
        if (m15 287 6) = (-1 : Int32) then
          j105
        else
          if x18 < x5 then
            j105
          else
            j114 m15 x5
  else
    k120 m2 x5
def fX8_chooseLeast_L10 (k120 : Mem → Int32 → Option (Unit × Mem)) (y3 : Int32) (y4 : Int32) : Nat → Mem → Int32 → Int32 → Option (Unit × Mem)
  | 0 => fun _ _ _ => none
  | n + 1 => fun m2 x5 x6 => fX8_chooseLeast_L10_b k120 y3 y4 (fX8_chooseLeast_L10 k120 y3 y4 n) m2 x5 x6
def fX8_chooseLeast (m0 : Mem) (a1 : Int32) (a2 : Int32) : Option (Unit × Mem) :=
  lt (sto m0 287 6 (-1 : Int32)) <| fun m1 =>
  fX8_chooseLeast_L10
    (fun (m9 : Mem) (x10 : Int32) =>
      ck (inb a1 729) <|
      lt (sto m9 293 (ix a1) x10) <| fun m11 =>
      some ((), m11))
    a1 a2 5000 m1 (0 : Int32) (0 : Int32)
def rmX8_growLeast : Room := { frames := 2, cells := 0, slots := 0, locals := 49 }
def fX8_growLeast_L57_b (k73 : Mem → Option (Unit × Mem)) (y13 : Int32) (rec : Mem → Int32 → Option (Unit × Mem)) (m12 : Mem) (x14 : Int32) : Option (Unit × Mem) :=
  if x14 < (0 : Int32) then
    k73 m12
  else
    cl (fX8_chooseLeast m12 x14 y13) <| fun _ m18 =>
    rec m18 (x14 + (-1 : Int32))
def fX8_growLeast_L57 (k73 : Mem → Option (Unit × Mem)) (y13 : Int32) : Nat → Mem → Int32 → Option (Unit × Mem)
  | 0 => fun _ _ => none
  | n + 1 => fun m12 x14 => fX8_growLeast_L57_b k73 y13 (fX8_growLeast_L57 k73 y13 n) m12 x14
def fX8_growLeast_L9_b (k44 : Mem → Int32 → Option (Unit × Mem)) (y3 : Int32) (rec : Mem → Int32 → Int32 → Option (Unit × Mem)) (m2 : Mem) (x4 : Int32) (x5 : Int32) : Option (Unit × Mem) :=
  if x5 < (0 : Int32) then
    k44 m2 x4
  else
    lt (fun (m19 : Mem) (x20 : Int32) =>
      rec m19 x20 (x5 + (-1 : Int32))) <| fun j38 =>
    if ((y3 >>> (x5 &&& 31)) &&& (1 : Int32)) = (1 : Int32) then
      if x4 < (6 : Int32) then
        ck (inb x4 6) <|
        lt (sto m2 290 (ix x4) x5) <| fun m21 =>
        j38 m21 (x4 + (1 : Int32))
      else
        j38 m2 x4
    else
      j38 m2 x4
def fX8_growLeast_L9 (k44 : Mem → Int32 → Option (Unit × Mem)) (y3 : Int32) : Nat → Mem → Int32 → Int32 → Option (Unit × Mem)
  | 0 => fun _ _ _ => none
  | n + 1 => fun m2 x4 x5 => fX8_growLeast_L9_b k44 y3 (fX8_growLeast_L9 k44 y3 n) m2 x4 x5
def fX8_growLeast (m0 : Mem) (a1 : Int32) : Option (Unit × Mem) :=
  cl (fX8_lookAtForms m0) <| fun _ m1 =>
  fX8_growLeast_L9
    (fun (m8 : Mem) (x9 : Int32) =>
      cl (fX8_fillStates m8 x9) <| fun _ m10 =>
      ck (inb x9 7) <|
      lt ((sV 2 (ix x9)) - (1 : Int32)) <| fun x11 =>
      fX8_growLeast_L57
        (fun (m16 : Mem) =>
          ck (inb (0 : Int32) 729) <|
          lt (sto m16 287 3 (m16 293 (ix (0 : Int32)))) <| fun m17 =>
          some ((), m17))
        x9 5000 m10 x11)
    a1 5000 m1 (0 : Int32) (11 : Int32)
def rmX9_startAt : Room := { frames := 0, cells := 0, slots := 0, locals := 0 }
def fX9_startAt (m0 : Mem) (a1 : Int32) : Option (Unit × Mem) :=
  lt (sto m0 296 5 (a1 &&& (31 : Int32))) <| fun m1 =>
  lt (sto m1 296 4 (0 : Int32)) <| fun m2 =>
  lt (sto m2 296 6 (0 : Int32)) <| fun m3 =>
  lt (sto m3 296 7 (0 : Int32)) <| fun m4 =>
  lt (sto m4 296 8 (0 : Int32)) <| fun m5 =>
  some ((), m5)
def rmX9_keepReturn : Room := { frames := 1, cells := 0, slots := 0, locals := 60 }
def fX9_keepReturn (m0 : Mem) (a1 : Int32) : Option (Unit × Mem) :=
  lt (fun (m1 : Mem) =>
    ck (inb (m1 296 4) 4) <|
    lt (sto m1 297 (ix (m1 296 4)) a1) <| fun m2 =>
    lt (sto m2 296 4 ((m2 296 4) + (1 : Int32))) <| fun m3 =>
    some ((), m3)) <| fun j35 =>
  if (m0 296 4) = (4 : Int32) then
    lt (sto m0 296 4 ((m0 296 4) - (1 : Int32))) <| fun m4 =>
    ck (cpb (1 : Int32) (0 : Int32) (m4 296 4) 4 4) <|
    lt (cpy m4 297 297 (ix (1 : Int32)) (ix (0 : Int32)) (ix (m4 296 4))) <| fun m5 =>
    j35 m5
  else
    j35 m0
def rmX9_latestReturn : Room := { frames := 0, cells := 0, slots := 0, locals := 0 }
def fX9_latestReturn (m0 : Mem) : Option (Int32 × Mem) :=
  if (m0 296 4) = (0 : Int32) then
    some ((m0 296 5), m0)
  else
    lt (sto m0 296 4 ((m0 296 4) - (1 : Int32))) <| fun m1 =>
    ck (inb (m1 296 4) 4) <|
    some ((m1 297 (ix (m1 296 4))), m1)
def rmX9_cellBehind : Room := { frames := 2, cells := 0, slots := 0, locals := 81 }
def fX9_cellBehind (m0 : Mem) (a1 : Int32) (a2 : Int32) : Option (Int32 × Mem) :=
  lt (((m0 296 5) + (1 : Int32)) &&& (31 : Int32)) <| fun x1 =>
  lt (((m0 296 5) + a2) &&& (31 : Int32)) <| fun x2 =>
  if a1 = (1 : Int32) then
    some (x2, m0)
  else
  if a1 = (2 : Int32) then
    some (x1, m0)
  else
  if a1 = (3 : Int32) then
    cl (fX9_keepReturn m0 x1) <| fun _ m6 =>
    some (x2, m6)
  else
  if a1 = (4 : Int32) then
    some (x1, m0)
  else
  if a1 = (5 : Int32) then
    cl (fX9_latestReturn m0) <| fun r10 m9 =>
    some (r10, m9)
  else
  if a1 = (6 : Int32) then
    if (a2 % (2 : Int32)) = (0 : Int32) then
      cl (fX9_keepReturn m0 x1) <| fun _ m12 =>
      some (x2, m12)
    else
      some (x1, m0)
  else
    some (x1, m0)
def rmX9_stepOn : Room := { frames := 5, cells := 0, slots := 0, locals := 114 }
def fX9_stepOn (m0 : Mem) : Option (Int32 × Mem) :=
  ck (inb (m0 296 5) 32) <|
  lt (m0 284 (ix (m0 296 5))) <| fun x1 =>
  cl (fX6_meaningOf m0 x1) <| fun r3 m2 =>
  cl (fX4_has m2 r3) <| fun r5 m4 =>
  if r5 = (0 : Int32) then
    some ((0 : Int32), m4)
  else
    ck (inb r3 12) <|
    lt (α := Option (Int32 × Mem)) (
      lt (sto m4 296 8 ((m4 296 8) ||| ((1 : Int32) <<< ((m4 296 5) &&& 31)))) <| fun m7 =>
      cl (fX3_costOf (11 + 22 * ix r3) m7 x1) <| fun r9 m8 =>
      lt (sto m8 296 7 ((m7 296 7) + r9)) <| fun m10 =>
      lt (sto m10 296 6 ((m10 296 6) + (1 : Int32))) <| fun m11 =>
      cl (fX3_firstIn (11 + 22 * ix r3) m11 x1) <| fun r13 m12 =>
      cl (fX9_cellBehind m12 (m11 (11 + 22 * ix r3) 0) r13) <| fun r15 m14 =>
      lt (sto m14 296 5 r15) <| fun m16 =>
      some ((1 : Int32), m16)) <| fun j62 =>
    if (m4 (11 + 22 * ix r3) 0) = (5 : Int32) then
      if (m4 296 4) = (0 : Int32) then
        some ((0 : Int32), m4)
      else
        j62
    else
      j62
def rmX10_refuse : Room := { frames := 1, cells := 0, slots := 0, locals := 22 }
def fX10_refuse (m0 : Mem) (a1 : Int32) : Option (Int32 × Mem) :=
  lt ((-1001 : Int32) - a1) <| fun x1 =>
  cl (fX10_within m0 x1 (0 : Int32) (2 : Int32)) <| fun r3 m2 =>
  if r3 = (0 : Int32) then
    some (a1, m2)
  else
    ck (inb x1 3) <|
    ck (inb x1 3) <|
    lt (sto m2 8 (ix x1) ((m2 8 (ix x1)) + (1 : Int32))) <| fun m4 =>
    some (a1, m4)
def rmX10_feed : Room := { frames := 2, cells := 0, slots := 0, locals := 44 }
def fX10_feed_L44_b (k75 : Mem → Option (Int32 × Mem)) (y8 : Int64) (y9 : Int32) (rec : Mem → Int32 → Option (Int32 × Mem)) (m7 : Mem) (x10 : Int32) : Option (Int32 × Mem) :=
  if x10 < y9 then
    cl (fX0_add 281 m7 ((((lushr y8 ((8 : Int32) * x10))).toInt32) &&& (255 : Int32))) <| fun _ m13 =>
    rec m13 (x10 + (1 : Int32))
  else
    k75 m7
def fX10_feed_L44 (k75 : Mem → Option (Int32 × Mem)) (y8 : Int64) (y9 : Int32) : Nat → Mem → Int32 → Option (Int32 × Mem)
  | 0 => fun _ _ => none
  | n + 1 => fun m7 x10 => fX10_feed_L44_b k75 y8 y9 (fX10_feed_L44 k75 y8 y9 n) m7 x10
def fX10_feed (m0 : Mem) (a1 : Int64) (a3 : Int32) : Option (Int32 × Mem) :=
  cl (fX10_within m0 a3 (1 : Int32) (8 : Int32)) <| fun r2 m1 =>
  if r2 = (0 : Int32) then
    cl (fX10_refuse m1 (-1001 : Int32)) <| fun r4 m3 =>
    some (r4, m3)
  else
    if ((200 : Int32) - (m1 281 1)) < a3 then
      cl (fX10_refuse m1 (-1002 : Int32)) <| fun r6 m5 =>
      some (r6, m5)
    else
      fX10_feed_L44
        (fun (m12 : Mem) =>
          some ((m12 281 1), m12))
        a1 a3 5000 m1 (0 : Int32)
def rmX10_wipe : Room := { frames := 0, cells := 0, slots := 0, locals := 0 }
def fX10_wipe (m0 : Mem) : Option (Int32 × Mem) :=
  lt (m0 281 1) <| fun x1 =>
  lt (sto m0 281 1 (0 : Int32)) <| fun m2 =>
  some (x1, m2)
def rmX10_text : Room := { frames := 6, cells := 0, slots := 0, locals := 135 }
def fX10_text (m0 : Mem) : Option (Int32 × Mem) :=
  cl (fX7_fault m0) <| fun r2 m1 =>
  lt (sto m1 281 1 (0 : Int32)) <| fun m3 =>
  if r2 = (-1 : Int32) then
    lt (sto m3 0 13 (0 : Int32)) <| fun m4 =>
    cl (fX6_forget m4) <| fun _ m5 =>
    some ((m5 9 1), m5)
  else
    some (((-10 : Int32) - r2), m3)
def rmX10_lettersIn : Room := { frames := 0, cells := 0, slots := 0, locals := 0 }
def fX10_lettersIn (m0 : Mem) (a0 : Int32) : Option (Int32 × Mem) :=
  if a0 < (65536 : Int32) then
    if a0 < (256 : Int32) then
      some ((1 : Int32), m0)
    else
      some ((2 : Int32), m0)
  else
    some ((3 : Int32), m0)
def rmX10_formOf : Room := { frames := 2, cells := 0, slots := 0, locals := 44 }
def fX10_formOf (m0 : Mem) (a1 : Int32) (a2 : Int32) : Option (Int32 × Mem) :=
  cl (fX4_has m0 a1) <| fun r2 m1 =>
  if r2 = (0 : Int32) then
    cl (fX10_refuse m1 (-1001 : Int32)) <| fun r4 m3 =>
    some (r4, m3)
  else
    ck (inb a1 12) <|
    if a2 = (0 : Int32) then
      some ((m1 (11 + 22 * ix a1) 0), m1)
    else
    if a2 = (1 : Int32) then
      some ((m1 (11 + 22 * ix a1) 2), m1)
    else
    if a2 = (2 : Int32) then
      some ((m1 (11 + 22 * ix a1) 3), m1)
    else
    if a2 = (3 : Int32) then
      some ((m1 (11 + 22 * ix a1) 6), m1)
    else
    if a2 = (4 : Int32) then
      some ((m1 (11 + 22 * ix a1) 10), m1)
    else
    if a2 = (5 : Int32) then
      cl (fX10_lettersIn m1 (m1 (11 + 22 * ix a1) 1)) <| fun r13 m12 =>
      some (r13, m12)
    else
      cl (fX10_refuse m1 (-1001 : Int32)) <| fun r15 m14 =>
      some (r15, m14)
def rmX10_withLetter : Room := { frames := 1, cells := 0, slots := 0, locals := 21 }
def fX10_withLetter (m0 : Mem) (a0 : Int32) (a1 : Int32) : Option (Int32 × Mem) :=
  if a1 = (-1 : Int32) then
    some (a0, m0)
  else
    cl (fX10_withSign m0 a0 ((97 : Int32) + a1)) <| fun r2 m1 =>
    some (r2, m1)
def rmX10_named : Room := { frames := 2, cells := 0, slots := 0, locals := 44 }
def fX10_named (m0 : Mem) (a1 : Int32) (a2 : Int32) (a3 : Int32) : Option (Int32 × Mem) :=
  cl (fX10_within m0 a1 (0 : Int32) (25 : Int32)) <| fun r2 m1 =>
  lt (fun (m3 : Mem) (v4 : Int32) =>
    lt (α := Option (Int32 × Mem)) (
      cl (fX10_refuse m3 (-1001 : Int32)) <| fun r6 m5 =>
      some (r6, m5)) <| fun j52 =>
    if v4 = (0 : Int32) then
      j52
    else
      lt (α := Option (Int32 × Mem)) (
        cl (fX10_withLetter m3 (0 : Int32) a1) <| fun r8 m7 =>
        cl (fX10_withLetter m7 r8 a2) <| fun r10 m9 =>
        cl (fX10_withLetter m9 r10 a3) <| fun r12 m11 =>
        cl (fX4_find m11 r12 (m11 9 1)) <| fun r14 m13 =>
        some (r14, m13)) <| fun j60 =>
      if a2 = (-1 : Int32) then
        if a3 = (-1 : Int32) then
          j60
        else
          j52
      else
        j60) <| fun j35 =>
  lt (fun (m15 : Mem) =>
    j35 m15 (0 : Int32)) <| fun j34 =>
  if r2 = (0 : Int32) then
    j34 m1
  else
    cl (fX10_within m1 a2 (-1 : Int32) (25 : Int32)) <| fun r17 m16 =>
    if r17 = (0 : Int32) then
      j34 m16
    else
      cl (fX10_within m16 a3 (-1 : Int32) (25 : Int32)) <| fun r19 m18 =>
      if r19 = (0 : Int32) then
        j34 m18
      else
        j35 m18 (1 : Int32)
def rmX10_isUnder : Room := { frames := 1, cells := 0, slots := 0, locals := 22 }
def fX10_isUnder_L4_b (k36 : Mem → Int32 → Option (Int32 × Mem)) (y2 : Int32) (rec : Mem → Int32 → Int32 → Option (Int32 × Mem)) (m1 : Mem) (x3 : Int32) (x4 : Int32) : Option (Int32 × Mem) :=
  if x4 < (3 : Int32) then
    if x3 = y2 then
      k36 m1 x3
    else
      cl (fX10_within m1 x3 (0 : Int32) (6 : Int32)) <| fun r10 m9 =>
      if r10 = (0 : Int32) then
        k36 m9 x3
      else
        ck (inb x3 7) <|
        lt (sV 0 (ix x3)) <| fun x11 =>
        rec m9 x11 (x4 + (1 : Int32))
  else
    k36 m1 x3
def fX10_isUnder_L4 (k36 : Mem → Int32 → Option (Int32 × Mem)) (y2 : Int32) : Nat → Mem → Int32 → Int32 → Option (Int32 × Mem)
  | 0 => fun _ _ _ => none
  | n + 1 => fun m1 x3 x4 => fX10_isUnder_L4_b k36 y2 (fX10_isUnder_L4 k36 y2 n) m1 x3 x4
def fX10_isUnder (m0 : Mem) (a0 : Int32) (a1 : Int32) : Option (Int32 × Mem) :=
  fX10_isUnder_L4
    (fun (m7 : Mem) (x8 : Int32) =>
      if x8 = a1 then
        some ((1 : Int32), m7)
      else
        some ((0 : Int32), m7))
    a1 5000 m0 a0 (0 : Int32)
def rmX10_ofKind : Room := { frames := 2, cells := 0, slots := 0, locals := 45 }
def fX10_ofKind_L22_b (k64 : Mem → Int32 → Option (Int32 × Mem)) (y6 : Int32) (rec : Mem → Int32 → Int32 → Option (Int32 × Mem)) (m5 : Mem) (x7 : Int32) (x8 : Int32) : Option (Int32 × Mem) :=
  if x8 < (m5 9 1) then
    ck (inb x8 12) <|
    cl (fX10_isUnder m5 (m5 (11 + 22 * ix x8) 0) y6) <| fun r15 m14 =>
    lt (fun (x16 : Int32) =>
      rec m14 x16 (x8 + (1 : Int32))) <| fun j58 =>
    if r15 = (0 : Int32) then
      j58 x7
    else
      lt (x7 ||| ((1 : Int32) <<< (x8 &&& 31))) <| fun x17 =>
      j58 x17
  else
    k64 m5 x7
def fX10_ofKind_L22 (k64 : Mem → Int32 → Option (Int32 × Mem)) (y6 : Int32) : Nat → Mem → Int32 → Int32 → Option (Int32 × Mem)
  | 0 => fun _ _ _ => none
  | n + 1 => fun m5 x7 x8 => fX10_ofKind_L22_b k64 y6 (fX10_ofKind_L22 k64 y6 n) m5 x7 x8
def fX10_ofKind (m0 : Mem) (a1 : Int32) : Option (Int32 × Mem) :=
  cl (fX10_within m0 a1 (0 : Int32) (6 : Int32)) <| fun r2 m1 =>
  if r2 = (0 : Int32) then
    cl (fX10_refuse m1 (-1001 : Int32)) <| fun r4 m3 =>
    some (r4, m3)
  else
    fX10_ofKind_L22
      (fun (m11 : Mem) (x12 : Int32) =>
        some (x12, m11))
      a1 5000 m1 (0 : Int32) (0 : Int32)
def rmX10_isWord : Room := { frames := 1, cells := 0, slots := 0, locals := 22 }
def fX10_isWord (m0 : Mem) (a0 : Int32) : Option (Int32 × Mem) :=
  cl (fX10_within m0 a0 (0 : Int32) (4095 : Int32)) <| fun r2 m1 =>
  ck (isB r2) (some (r2, m1))
def rmX10_means : Room := { frames := 5, cells := 0, slots := 0, locals := 114 }
def fX10_means (m0 : Mem) (a1 : Int32) : Option (Int32 × Mem) :=
  cl (fX10_isWord m0 a1) <| fun r2 m1 =>
  if r2 = (0 : Int32) then
    cl (fX10_refuse m1 (-1001 : Int32)) <| fun r4 m3 =>
    some (r4, m3)
  else
    cl (fX6_meaningOf m1 a1) <| fun r6 m5 =>
    if r6 = (12 : Int32) then
      some ((-1 : Int32), m5)
    else
      if r6 = (13 : Int32) then
        some ((-2 : Int32), m5)
      else
        some (r6, m5)
def rmX10_fits : Room := { frames := 5, cells := 0, slots := 0, locals := 114 }
def fX10_fits (m0 : Mem) (a1 : Int32) : Option (Int32 × Mem) :=
  cl (fX10_isWord m0 a1) <| fun r2 m1 =>
  if r2 = (0 : Int32) then
    cl (fX10_refuse m1 (-1001 : Int32)) <| fun r4 m3 =>
    some (r4, m3)
  else
    cl (fX6_fittingOf m1 a1) <| fun r6 m5 =>
    some (r6, m5)
def rmX10_over : Room := { frames := 2, cells := 0, slots := 0, locals := 44 }
def fX10_over (m0 : Mem) (a1 : Int32) (a2 : Int32) : Option (Int32 × Mem) :=
  cl (fX4_has m0 a1) <| fun r2 m1 =>
  lt (fun (m3 : Mem) =>
    cl (fX10_refuse m3 (-1001 : Int32)) <| fun r5 m4 =>
    some (r5, m4)) <| fun j27 =>
  if r2 = (0 : Int32) then
    j27 m1
  else
    cl (fX4_has m1 a2) <| fun r7 m6 =>
    if r7 = (0 : Int32) then
      j27 m6
    else
      if a1 = a2 then
        j27 m6
      else
        ck (inb a1 12) <|
        ck (inb a2 12) <|
        cl (fX3_isOver (11 + 22 * ix a1) m6 (11 + 22 * ix a2)) <| fun r11 m10 =>
        if r11 = (0 : Int32) then
          some ((0 : Int32), m10)
        else
          some ((1 : Int32), m10)
def rmX10_isMeaning : Room := { frames := 1, cells := 0, slots := 0, locals := 21 }
def fX10_isMeaning (m0 : Mem) (a1 : Int32) : Option (Int32 × Mem) :=
  cl (fX4_has m0 a1) <| fun r2 m1 =>
  lt (α := Option (Int32 × Mem)) (
    some ((1 : Int32), m1)) <| fun j23 =>
  if r2 = (0 : Int32) then
    if a1 = (12 : Int32) then
      j23
    else
      if a1 = (13 : Int32) then
        j23
      else
        some ((0 : Int32), m1)
  else
    j23
def rmX10_many : Room := { frames := 6, cells := 0, slots := 0, locals := 136 }
def fX10_many (m0 : Mem) (a1 : Int32) : Option (Int32 × Mem) :=
  cl (fX10_isMeaning m0 a1) <| fun r2 m1 =>
  if r2 = (0 : Int32) then
    cl (fX10_refuse m1 (-1001 : Int32)) <| fun r4 m3 =>
    some (r4, m3)
  else
    cl (fX6_goThrough m1) <| fun _ m5 =>
    ck (inb a1 14) <|
    some ((m5 278 (ix a1)), m5)
def rmX10_covers : Room := { frames := 5, cells := 0, slots := 0, locals := 114 }
def fX10_covers_L28_b (k66 : Mem → Int64 → Option (Int64 × Mem)) (y6 : Int32) (y7 : Int32) (rec : Mem → Int64 → Int32 → Option (Int64 × Mem)) (m5 : Mem) (x8 : Int64) (x9 : Int32) : Option (Int64 × Mem) :=
  if x9 < (64 : Int32) then
    cl (fX6_meaningOf m5 (((64 : Int32) * y7) + x9)) <| fun r15 m14 =>
    lt (fun (x16 : Int64) =>
      rec m14 x16 (x9 + (1 : Int32))) <| fun j60 =>
    if r15 = y6 then
      lt (x8 ||| ((1 : Int64) <<< ((x9).toInt64 &&& 63))) <| fun x17 =>
      j60 x17
    else
      j60 x8
  else
    k66 m5 x8
def fX10_covers_L28 (k66 : Mem → Int64 → Option (Int64 × Mem)) (y6 : Int32) (y7 : Int32) : Nat → Mem → Int64 → Int32 → Option (Int64 × Mem)
  | 0 => fun _ _ _ => none
  | n + 1 => fun m5 x8 x9 => fX10_covers_L28_b k66 y6 y7 (fX10_covers_L28 k66 y6 y7 n) m5 x8 x9
def fX10_covers (m0 : Mem) (a1 : Int32) (a2 : Int32) : Option (Int64 × Mem) :=
  cl (fX4_has m0 a1) <| fun r2 m1 =>
  if r2 = (0 : Int32) then
    some ((0 : Int64), m1)
  else
    cl (fX10_within m1 a2 (0 : Int32) (63 : Int32)) <| fun r4 m3 =>
    if r4 = (0 : Int32) then
      some ((0 : Int64), m3)
    else
      fX10_covers_L28
        (fun (m12 : Mem) (x13 : Int64) =>
          some (x13, m12))
        a1 a2 5000 m3 (0 : Int64) (0 : Int32)
def rmX10_next : Room := { frames := 5, cells := 0, slots := 0, locals := 114 }
def fX10_next_L31_b (k50 : Mem → Int32 → Option (Int32 × Mem)) (k58 : Mem → Option (Int32 × Mem)) (y10 : Int32) (rec : Mem → Int32 → Option (Int32 × Mem)) (m9 : Mem) (x11 : Int32) : Option (Int32 × Mem) :=
  if x11 < (4096 : Int32) then
    cl (fX6_meaningOf m9 x11) <| fun r19 m18 =>
    if r19 = y10 then
      k50 m18 x11
    else
      rec m18 (x11 + (1 : Int32))
  else
    k58 m9
def fX10_next_L31 (k50 : Mem → Int32 → Option (Int32 × Mem)) (k58 : Mem → Option (Int32 × Mem)) (y10 : Int32) : Nat → Mem → Int32 → Option (Int32 × Mem)
  | 0 => fun _ _ => none
  | n + 1 => fun m9 x11 => fX10_next_L31_b k50 k58 y10 (fX10_next_L31 k50 k58 y10 n) m9 x11
def fX10_next (m0 : Mem) (a1 : Int32) (a2 : Int32) : Option (Int32 × Mem) :=
  cl (fX10_isMeaning m0 a1) <| fun r2 m1 =>
  lt (fun (m3 : Mem) =>
    cl (fX10_refuse m3 (-1001 : Int32)) <| fun r5 m4 =>
    some (r5, m4)) <| fun j19 =>
  if r2 = (0 : Int32) then
    j19 m1
  else
    cl (fX10_within m1 a2 (-1 : Int32) (4095 : Int32)) <| fun r7 m6 =>
    if r7 = (0 : Int32) then
      j19 m6
    else
      lt (a2 + (1 : Int32)) <| fun x8 =>
      fX10_next_L31
        (fun (m14 : Mem) (x15 : Int32) =>
          some (x15, m14))
        (fun (m17 : Mem) =>
          some ((-1 : Int32), m17))
        a1 5000 m6 x8
def rmX10_clash : Room := { frames := 6, cells := 0, slots := 0, locals := 136 }
def fX10_clash (m0 : Mem) (a1 : Int32) (a2 : Int32) : Option (Int32 × Mem) :=
  lt (fun (m1 : Mem) =>
    cl (fX10_refuse m1 (-1001 : Int32)) <| fun r3 m2 =>
    some (r3, m2)) <| fun j13 =>
  if a1 < (0 : Int32) then
    j13 m0
  else
    cl (fX10_within m0 a2 (0 : Int32) (1 : Int32)) <| fun r5 m4 =>
    if r5 = (0 : Int32) then
      j13 m4
    else
      cl (fX6_goThrough m4) <| fun _ m6 =>
      cl (fX6_clashingPair m6 a1) <| fun r8 m7 =>
      if r8 = (-1 : Int32) then
        some ((-1 : Int32), m7)
      else
        if a2 = (0 : Int32) then
          some (r8, m7)
        else
          ck (inb r8 192) <|
          some ((m7 280 (ix r8)), m7)
def rmX10_odd : Room := { frames := 6, cells := 0, slots := 0, locals := 136 }
def fX10_odd (m0 : Mem) (a1 : Int32) : Option (Int32 × Mem) :=
  cl (fX10_within m0 a1 (0 : Int32) (2 : Int32)) <| fun r2 m1 =>
  if r2 = (0 : Int32) then
    cl (fX10_refuse m1 (-1001 : Int32)) <| fun r4 m3 =>
    some (r4, m3)
  else
    if a1 = (1 : Int32) then
      cl (fX4_twins m1) <| fun r6 m5 =>
      some (r6, m5)
    else
      cl (fX6_goThrough m1) <| fun _ m7 =>
      if a1 = (0 : Int32) then
        cl (fX6_deadForms m7) <| fun r9 m8 =>
        some (r9, m8)
      else
        some ((m7 275 7), m7)
def rmX10_isTreeSet : Room := { frames := 2, cells := 0, slots := 0, locals := 42 }
def fX10_isTreeSet (m0 : Mem) (a0 : Int32) : Option (Int32 × Mem) :=
  cl (fX10_isWord m0 a0) <| fun r2 m1 =>
  if r2 = (0 : Int32) then
    some ((0 : Int32), m1)
  else
    cl (fJ6_bitCount_0f7a4 m1 a0) <| fun r4 m3 =>
    if (6 : Int32) < r4 then
      some ((0 : Int32), m3)
    else
      some ((1 : Int32), m3)
def rmX10_greedy : Room := { frames := 61, cells := 0, slots := 0, locals := 4021 }
def fX10_greedy (m0 : Mem) (a1 : Int32) (a2 : Int32) : Option (Int32 × Mem) :=
  cl (fX10_isTreeSet m0 a1) <| fun r2 m1 =>
  lt (fun (m3 : Mem) =>
    cl (fX10_refuse m3 (-1001 : Int32)) <| fun r5 m4 =>
    some (r5, m4)) <| fun j16 =>
  if r2 = (0 : Int32) then
    j16 m1
  else
    cl (fX10_within m1 a2 (0 : Int32) (3 : Int32)) <| fun r7 m6 =>
    if r7 = (0 : Int32) then
      j16 m6
    else
      cl (fX8_growGreedy m6 a1) <| fun _ m8 =>
      if a2 = (0 : Int32) then
        some ((m8 287 3), m8)
      else
      if a2 = (1 : Int32) then
        some ((m8 287 4), m8)
      else
      if a2 = (2 : Int32) then
        some ((m8 287 6), m8)
      else
        some ((m8 287 5), m8)
def rmX10_least : Room := { frames := 3, cells := 0, slots := 0, locals := 72 }
def fX10_least (m0 : Mem) (a1 : Int32) (a2 : Int32) : Option (Int32 × Mem) :=
  cl (fX10_isTreeSet m0 a1) <| fun r2 m1 =>
  lt (fun (m3 : Mem) =>
    cl (fX10_refuse m3 (-1001 : Int32)) <| fun r5 m4 =>
    some (r5, m4)) <| fun j16 =>
  if r2 = (0 : Int32) then
    j16 m1
  else
    cl (fX10_within m1 a2 (0 : Int32) (1 : Int32)) <| fun r7 m6 =>
    if r7 = (0 : Int32) then
      j16 m6
    else
      cl (fX8_growLeast m6 a1) <| fun _ m8 =>
      if a2 = (0 : Int32) then
        some ((m8 287 3), m8)
      else
        some ((m8 287 6), m8)
def rmX10_leaf : Room := { frames := 3, cells := 0, slots := 0, locals := 86 }
def fX10_leaf (m0 : Mem) (a1 : Int32) (a2 : Int32) : Option (Int32 × Mem) :=
  cl (fX10_isTreeSet m0 a1) <| fun r2 m1 =>
  lt (fun (m3 : Mem) =>
    cl (fX10_refuse m3 (-1001 : Int32)) <| fun r5 m4 =>
    some (r5, m4)) <| fun j14 =>
  if r2 = (0 : Int32) then
    j14 m1
  else
    cl (fX10_isWord m1 a2) <| fun r7 m6 =>
    if r7 = (0 : Int32) then
      j14 m6
    else
      cl (fX8_candidatesFor m6 a1 a2) <| fun r9 m8 =>
      some (r9, m8)
def rmX10_isLetter : Room := { frames := 1, cells := 0, slots := 0, locals := 22 }
def fX10_isLetter (m0 : Mem) (a0 : Int32) : Option (Int32 × Mem) :=
  cl (fX10_within m0 a0 (0 : Int32) (7 : Int32)) <| fun r2 m1 =>
  ck (isB r2) (some (r2, m1))
def rmX10_field : Room := { frames := 2, cells := 0, slots := 0, locals := 44 }
def fX10_field (m0 : Mem) (a1 : Int32) (a2 : Int32) (a3 : Int32) : Option (Int32 × Mem) :=
  cl (fX4_has m0 a1) <| fun r2 m1 =>
  lt (fun (m3 : Mem) =>
    cl (fX10_refuse m3 (-1001 : Int32)) <| fun r5 m4 =>
    some (r5, m4)) <| fun j27 =>
  if r2 = (0 : Int32) then
    j27 m1
  else
    cl (fX10_isLetter m1 a2) <| fun r7 m6 =>
    if r7 = (0 : Int32) then
      j27 m6
    else
      cl (fX10_within m6 a3 (0 : Int32) (2 : Int32)) <| fun r9 m8 =>
      if r9 = (0 : Int32) then
        j27 m8
      else
        ck (inb a1 12) <|
        ck (inb a2 8) <|
        if (m8 (((11 + 22 * ix a1) + 1) + 5 + 2 * ix a2) 2) = (0 : Int32) then
          some ((-1 : Int32), m8)
        else
          if a3 = (0 : Int32) then
            some ((m8 (((11 + 22 * ix a1) + 1) + 5 + 2 * ix a2) 2), m8)
          else
          if a3 = (1 : Int32) then
            some ((m8 (((11 + 22 * ix a1) + 1) + 5 + 2 * ix a2) 3), m8)
          else
            cl (fX3_placeOf (11 + 22 * ix a1) m8 a2) <| fun r15 m14 =>
            some (r15, m14)
def rmX10_hasField : Room := { frames := 2, cells := 0, slots := 0, locals := 42 }
def fX10_hasField (m0 : Mem) (a1 : Int32) (a2 : Int32) : Option (Int32 × Mem) :=
  cl (fX4_has m0 a1) <| fun r2 m1 =>
  if r2 = (0 : Int32) then
    some ((0 : Int32), m1)
  else
    cl (fX10_isLetter m1 a2) <| fun r4 m3 =>
    if r4 = (0 : Int32) then
      some ((0 : Int32), m3)
    else
      ck (inb a1 12) <|
      ck (inb a2 8) <|
      if (0 : Int32) < (m3 (((11 + 22 * ix a1) + 1) + 5 + 2 * ix a2) 2) then
        some ((1 : Int32), m3)
      else
        some ((0 : Int32), m3)
def rmX10_taken : Room := { frames := 3, cells := 0, slots := 0, locals := 64 }
def fX10_taken (m0 : Mem) (a1 : Int32) (a2 : Int32) (a3 : Int32) : Option (Int32 × Mem) :=
  cl (fX10_hasField m0 a1 a2) <| fun r2 m1 =>
  lt (fun (m3 : Mem) =>
    cl (fX10_refuse m3 (-1001 : Int32)) <| fun r5 m4 =>
    some (r5, m4)) <| fun j16 =>
  if r2 = (0 : Int32) then
    j16 m1
  else
    cl (fX10_isWord m1 a3) <| fun r7 m6 =>
    if r7 = (0 : Int32) then
      j16 m6
    else
      ck (inb a1 12) <|
      ck (inb a2 8) <|
      cl (fX2_numberIn (((11 + 22 * ix a1) + 1) + 5 + 2 * ix a2) m6 a3) <| fun r11 m10 =>
      some (r11, m10)
def rmX10_laid : Room := { frames := 3, cells := 0, slots := 0, locals := 64 }
def fX10_laid (m0 : Mem) (a1 : Int32) (a2 : Int32) (a3 : Int32) (a4 : Int32) : Option (Int32 × Mem) :=
  cl (fX10_hasField m0 a1 a2) <| fun r2 m1 =>
  lt (fun (m3 : Mem) =>
    cl (fX10_refuse m3 (-1001 : Int32)) <| fun r5 m4 =>
    some (r5, m4)) <| fun j16 =>
  if r2 = (0 : Int32) then
    j16 m1
  else
    cl (fX10_isWord m1 a3) <| fun r7 m6 =>
    if r7 = (0 : Int32) then
      j16 m6
    else
      ck (inb a1 12) <|
      ck (inb a2 8) <|
      cl (fX2_canHold (((11 + 22 * ix a1) + 1) + 5 + 2 * ix a2) m6 a4) <| fun r11 m10 =>
      if r11 = (0 : Int32) then
        cl (fX10_refuse m10 (-1001 : Int32)) <| fun r13 m12 =>
        some (r13, m12)
      else
        cl (fX2_putInto (((11 + 22 * ix a1) + 1) + 5 + 2 * ix a2) m10 a3 a4) <| fun r15 m14 =>
        some (r15, m14)
def rmX10_remember : Room := { frames := 2, cells := 0, slots := 0, locals := 81 }
def fX10_remember (m0 : Mem) : Option (Unit × Mem) :=
  lt (fun (m1 : Mem) =>
    ck (inb (((m1 0 12) + (m1 0 13)) % (16 : Int32)) 16) <|
    cl (fX1_become (298 + 4 * ix (((m1 0 12) + (m1 0 13)) % (16 : Int32))) m1 283) <| fun _ m3 =>
    lt (sto m3 0 13 ((m3 0 13) + (1 : Int32))) <| fun m4 =>
    some ((), m4)) <| fun j32 =>
  if (m0 0 13) = (16 : Int32) then
    lt (sto m0 0 12 (((m0 0 12) + (1 : Int32)) % (16 : Int32))) <| fun m5 =>
    lt (sto m5 0 13 ((m5 0 13) - (1 : Int32))) <| fun m6 =>
    j32 m6
  else
    j32 m0
def rmX10_hold : Room := { frames := 3, cells := 0, slots := 0, locals := 101 }
def fX10_hold (m0 : Mem) (a1 : Int32) (a2 : Int32) : Option (Int32 × Mem) :=
  cl (fX10_isLetter m0 a1) <| fun r2 m1 =>
  lt (fun (m3 : Mem) =>
    cl (fX10_refuse m3 (-1001 : Int32)) <| fun r5 m4 =>
    some (r5, m4)) <| fun j19 =>
  if r2 = (0 : Int32) then
    j19 m1
  else
    cl (fX10_within m1 a2 (-128 : Int32) (255 : Int32)) <| fun r7 m6 =>
    if r7 = (0 : Int32) then
      j19 m6
    else
      cl (fX10_remember m6) <| fun _ m8 =>
      ck (inb a1 8) <|
      lt (m8 285 (ix a1)) <| fun x9 =>
      ck (inb a1 8) <|
      lt (sto m8 285 (ix a1) a2) <| fun m10 =>
      some (x9, m10)
def rmX10_make : Room := { frames := 5, cells := 0, slots := 0, locals := 114 }
def fX10_make (m0 : Mem) (a1 : Int32) : Option (Int32 × Mem) :=
  cl (fX4_has m0 a1) <| fun r2 m1 =>
  if r2 = (0 : Int32) then
    cl (fX10_refuse m1 (-1001 : Int32)) <| fun r4 m3 =>
    some (r4, m3)
  else
    ck (inb a1 12) <|
    cl (fX3_madeOf (11 + 22 * ix a1) m1 285) <| fun r7 m6 =>
    if r7 = (-1 : Int32) then
      cl (fX10_refuse m6 (-1001 : Int32)) <| fun r9 m8 =>
      some (r9, m8)
    else
      cl (fX6_meaningOf m6 r7) <| fun r11 m10 =>
      if r11 = a1 then
        some (r7, m10)
      else
        cl (fX10_refuse m10 (-1003 : Int32)) <| fun r13 m12 =>
        some (r13, m12)
def rmX10_writeForm : Room := { frames := 2, cells := 0, slots := 0, locals := 44 }
def fX10_writeForm_L13_b (k52 : Mem → Option (Unit × Mem)) (q3 : Nat) (y4 : Int32) (rec : Mem → Int32 → Option (Unit × Mem)) (m2 : Mem) (x5 : Int32) : Option (Unit × Mem) :=
  if x5 < (m2 q3 6) then
    cl (fX0_add 1 m2 (32 : Int32)) <| fun _ m8 =>
    cl (fX3_fieldAt q3 m8 x5) <| fun r10 m9 =>
    ck (isO 2 r10) <|
    cl (fX2_numberIn r10 m9 y4) <| fun r12 m11 =>
    cl (fX0_addNumber 1 m11 r12) <| fun _ m13 =>
    rec m13 (x5 + (1 : Int32))
  else
    k52 m2
def fX10_writeForm_L13 (k52 : Mem → Option (Unit × Mem)) (q3 : Nat) (y4 : Int32) : Nat → Mem → Int32 → Option (Unit × Mem)
  | 0 => fun _ _ => none
  | n + 1 => fun m2 x5 => fX10_writeForm_L13_b k52 q3 y4 (fX10_writeForm_L13 k52 q3 y4 n) m2 x5
def fX10_writeForm (m0 : Mem) (a1 : Nat) (a2 : Int32) : Option (Unit × Mem) :=
  cl (fX0_addName 1 m0 (m0 a1 1)) <| fun _ m1 =>
  fX10_writeForm_L13
    (fun (m7 : Mem) =>
      some ((), m7))
    a1 a2 5000 m1 (0 : Int32)
def rmX10_write : Room := { frames := 5, cells := 0, slots := 0, locals := 114 }
def fX10_write (m0 : Mem) (a1 : Int32) : Option (Int32 × Mem) :=
  cl (fX10_isWord m0 a1) <| fun r2 m1 =>
  if r2 = (0 : Int32) then
    cl (fX10_refuse m1 (-1001 : Int32)) <| fun r4 m3 =>
    some (r4, m3)
  else
    cl (fX6_meaningOf m1 a1) <| fun r6 m5 =>
    lt (sto m5 1 1 (0 : Int32)) <| fun m7 =>
    cl (fX4_has m7 r6) <| fun r9 m8 =>
    lt (fun (m10 : Mem) =>
      some ((m10 1 1), m10)) <| fun j88 =>
    if r9 = (0 : Int32) then
      lt (fun (v11 : Int32) =>
        cl (fX0_add 1 m8 v11) <| fun _ m12 =>
        cl (fX0_addNumber 1 m12 a1) <| fun _ m13 =>
        j88 m13) <| fun j77 =>
      if r6 = (12 : Int32) then
        j77 (63 : Int32)
      else
        j77 (33 : Int32)
    else
      ck (inb r6 12) <|
      cl (fX10_writeForm m8 (11 + 22 * ix r6) a1) <| fun _ m15 =>
      j88 m15
def rmX10_written : Room := { frames := 1, cells := 0, slots := 0, locals := 21 }
def fX10_written (m0 : Mem) (a1 : Int32) : Option (Int32 × Mem) :=
  cl (fX0_at 1 m0 a1) <| fun r2 m1 =>
  some (r2, m1)
def rmX10_read : Room := { frames := 6, cells := 0, slots := 0, locals := 135 }
def fX10_read (m0 : Mem) : Option (Int32 × Mem) :=
  cl (fX5_wordOrFault m0) <| fun r2 m1 =>
  lt (sto m1 281 1 (0 : Int32)) <| fun m3 =>
  some (r2, m3)
def rmX10_isCell : Room := { frames := 1, cells := 0, slots := 0, locals := 22 }
def fX10_isCell (m0 : Mem) (a0 : Int32) : Option (Int32 × Mem) :=
  cl (fX10_within m0 a0 (0 : Int32) (31 : Int32)) <| fun r2 m1 =>
  ck (isB r2) (some (r2, m1))
def rmX10_put : Room := { frames := 3, cells := 0, slots := 0, locals := 101 }
def fX10_put (m0 : Mem) (a1 : Int32) (a2 : Int32) : Option (Int32 × Mem) :=
  cl (fX10_isCell m0 a1) <| fun r2 m1 =>
  lt (fun (m3 : Mem) =>
    cl (fX10_refuse m3 (-1001 : Int32)) <| fun r5 m4 =>
    some (r5, m4)) <| fun j14 =>
  if r2 = (0 : Int32) then
    j14 m1
  else
    cl (fX10_isWord m1 a2) <| fun r7 m6 =>
    if r7 = (0 : Int32) then
      j14 m6
    else
      cl (fX10_remember m6) <| fun _ m8 =>
      ck (inb a1 32) <|
      lt (m8 284 (ix a1)) <| fun x9 =>
      ck (inb a1 32) <|
      lt (sto m8 284 (ix a1) a2) <| fun m10 =>
      some (x9, m10)
def rmX10_cell : Room := { frames := 2, cells := 0, slots := 0, locals := 44 }
def fX10_cell (m0 : Mem) (a1 : Int32) : Option (Int32 × Mem) :=
  cl (fX10_isCell m0 a1) <| fun r2 m1 =>
  if r2 = (0 : Int32) then
    cl (fX10_refuse m1 (-1001 : Int32)) <| fun r4 m3 =>
    some (r4, m3)
  else
    ck (inb a1 32) <|
    some ((m1 284 (ix a1)), m1)
def rmX10_copy : Room := { frames := 3, cells := 0, slots := 0, locals := 101 }
def fX10_copy (m0 : Mem) (a1 : Int32) (a2 : Int32) (a3 : Int32) : Option (Int32 × Mem) :=
  cl (fX10_isCell m0 a1) <| fun r2 m1 =>
  lt (fun (m3 : Mem) =>
    cl (fX10_refuse m3 (-1001 : Int32)) <| fun r5 m4 =>
    some (r5, m4)) <| fun j34 =>
  if r2 = (0 : Int32) then
    j34 m1
  else
    cl (fX10_isCell m1 a2) <| fun r7 m6 =>
    if r7 = (0 : Int32) then
      j34 m6
    else
      if a3 < (0 : Int32) then
        j34 m6
      else
        if ((32 : Int32) - a1) < a3 then
          j34 m6
        else
          if ((32 : Int32) - a2) < a3 then
            j34 m6
          else
            cl (fX10_remember m6) <| fun _ m8 =>
            ck (cpb a1 a2 a3 32 32) <|
            lt (cpy m8 284 284 (ix a1) (ix a2) (ix a3)) <| fun m9 =>
            some (a3, m9)
def rmX10_holders : Room := { frames := 5, cells := 0, slots := 0, locals := 114 }
def fX10_holders_L20_b (k58 : Mem → Int32 → Option (Int32 × Mem)) (y6 : Int32) (rec : Mem → Int32 → Int32 → Option (Int32 × Mem)) (m5 : Mem) (x7 : Int32) (x8 : Int32) : Option (Int32 × Mem) :=
  if x8 < (32 : Int32) then
    ck (inb x8 32) <|
    cl (fX6_meaningOf m5 (m5 284 (ix x8))) <| fun r14 m13 =>
    lt (fun (x15 : Int32) =>
      rec m13 x15 (x8 + (1 : Int32))) <| fun j52 =>
    if r14 = y6 then
      lt (x7 ||| ((1 : Int32) <<< (x8 &&& 31))) <| fun x16 =>
      j52 x16
    else
      j52 x7
  else
    k58 m5 x7
def fX10_holders_L20 (k58 : Mem → Int32 → Option (Int32 × Mem)) (y6 : Int32) : Nat → Mem → Int32 → Int32 → Option (Int32 × Mem)
  | 0 => fun _ _ _ => none
  | n + 1 => fun m5 x7 x8 => fX10_holders_L20_b k58 y6 (fX10_holders_L20 k58 y6 n) m5 x7 x8
def fX10_holders (m0 : Mem) (a1 : Int32) : Option (Int32 × Mem) :=
  cl (fX10_isMeaning m0 a1) <| fun r2 m1 =>
  if r2 = (0 : Int32) then
    cl (fX10_refuse m1 (-1001 : Int32)) <| fun r4 m3 =>
    some (r4, m3)
  else
    fX10_holders_L20
      (fun (m11 : Mem) (x12 : Int32) =>
        some (x12, m11))
      a1 5000 m1 (0 : Int32) (0 : Int32)
def rmX10_walk : Room := { frames := 6, cells := 0, slots := 0, locals := 137 }
def fX10_walk_L49_b (k75 : Mem → Option (Int32 × Mem)) (y12 : Int32) (y13 : Int32) (rec : Mem → Int32 → Int32 → Option (Int32 × Mem)) (m11 : Mem) (x14 : Int32) (x15 : Int32) : Option (Int32 × Mem) :=
  if x15 < y12 then
    if x14 = (0 : Int32) then
      k75 m11
    else
      cl (fX9_stepOn m11) <| fun r23 m22 =>
      rec m22 r23 (x15 + (1 : Int32))
  else
    k75 m11
def fX10_walk_L49 (k75 : Mem → Option (Int32 × Mem)) (y12 : Int32) (y13 : Int32) : Nat → Mem → Int32 → Int32 → Option (Int32 × Mem)
  | 0 => fun _ _ _ => none
  | n + 1 => fun m11 x14 x15 => fX10_walk_L49_b k75 y12 y13 (fX10_walk_L49 k75 y12 y13 n) m11 x14 x15
def fX10_walk (m0 : Mem) (a1 : Int32) (a2 : Int32) (a3 : Int32) : Option (Int32 × Mem) :=
  cl (fX10_isCell m0 a1) <| fun r2 m1 =>
  lt (fun (m3 : Mem) =>
    cl (fX10_refuse m3 (-1001 : Int32)) <| fun r5 m4 =>
    some (r5, m4)) <| fun j27 =>
  if r2 = (0 : Int32) then
    j27 m1
  else
    cl (fX10_within m1 a2 (0 : Int32) (200 : Int32)) <| fun r7 m6 =>
    if r7 = (0 : Int32) then
      j27 m6
    else
      cl (fX10_within m6 a3 (0 : Int32) (4 : Int32)) <| fun r9 m8 =>
      if r9 = (0 : Int32) then
        j27 m8
      else
        cl (fX9_startAt m8 a1) <| fun _ m10 =>
        fX10_walk_L49
          (fun (m17 : Mem) =>
            if a3 = (0 : Int32) then
              some ((m17 296 5), m17)
            else
            if a3 = (1 : Int32) then
              some ((m17 296 6), m17)
            else
            if a3 = (2 : Int32) then
              some ((m17 296 7), m17)
            else
            if a3 = (3 : Int32) then
              some ((m17 296 4), m17)
            else
              some ((m17 296 8), m17))
          a2 a3 5000 m10 (1 : Int32) (0 : Int32)
def rmX10_halts : Room := { frames := 6, cells := 0, slots := 0, locals := 137 }
def fX10_halts_L25_b (k42 : Mem → Int32 → Option (Int32 × Mem)) (k50 : Mem → Option (Int32 × Mem))  (rec : Mem → Int32 → Option (Int32 × Mem)) (m6 : Mem) (x7 : Int32) : Option (Int32 × Mem) :=
  if (200 : Int32) < x7 then
    k50 m6
  else
    cl (fX9_stepOn m6) <| fun r15 m14 =>
    if r15 = (0 : Int32) then
      k42 m14 x7
    else
      rec m14 (x7 + (1 : Int32))
def fX10_halts_L25 (k42 : Mem → Int32 → Option (Int32 × Mem)) (k50 : Mem → Option (Int32 × Mem))  : Nat → Mem → Int32 → Option (Int32 × Mem)
  | 0 => fun _ _ => none
  | n + 1 => fun m6 x7 => fX10_halts_L25_b k42 k50  (fX10_halts_L25 k42 k50  n) m6 x7
def fX10_halts (m0 : Mem) (a1 : Int32) : Option (Int32 × Mem) :=
  cl (fX10_isCell m0 a1) <| fun r2 m1 =>
  if r2 = (0 : Int32) then
    cl (fX10_refuse m1 (-1001 : Int32)) <| fun r4 m3 =>
    some (r4, m3)
  else
    cl (fX9_startAt m1 a1) <| fun _ m5 =>
    fX10_halts_L25
      (fun (m10 : Mem) (x11 : Int32) =>
        some (x11, m10))
      (fun (m13 : Mem) =>
        some ((-1 : Int32), m13))
      5000 m5 (0 : Int32)
def rmX10_run : Room := { frames := 6, cells := 0, slots := 0, locals := 137 }
def fX10_run_L40_b (k72 : Mem → Option (Int32 × Mem)) (k90 : Mem → Option (Int32 × Mem)) (y11 : Int32) (rec : Mem → Int32 → Option (Int32 × Mem)) (m10 : Mem) (x12 : Int32) : Option (Int32 × Mem) :=
  if x12 < y11 then
    ck (inb (m10 296 5) 32) <|
    lt (m10 284 (ix (m10 296 5))) <| fun x17 =>
    cl (fX9_stepOn m10) <| fun r19 m18 =>
    if r19 = (0 : Int32) then
      k72 m18
    else
      cl (fX1_meet 283 m18 x17) <| fun _ m20 =>
      rec m20 (x12 + (1 : Int32))
  else
    k90 m10
def fX10_run_L40 (k72 : Mem → Option (Int32 × Mem)) (k90 : Mem → Option (Int32 × Mem)) (y11 : Int32) : Nat → Mem → Int32 → Option (Int32 × Mem)
  | 0 => fun _ _ => none
  | n + 1 => fun m10 x12 => fX10_run_L40_b k72 k90 y11 (fX10_run_L40 k72 k90 y11 n) m10 x12
def fX10_run (m0 : Mem) (a1 : Int32) (a2 : Int32) : Option (Int32 × Mem) :=
  cl (fX10_isCell m0 a1) <| fun r2 m1 =>
  lt (fun (m3 : Mem) =>
    cl (fX10_refuse m3 (-1001 : Int32)) <| fun r5 m4 =>
    some (r5, m4)) <| fun j18 =>
  if r2 = (0 : Int32) then
    j18 m1
  else
    cl (fX10_within m1 a2 (1 : Int32) (200 : Int32)) <| fun r7 m6 =>
    if r7 = (0 : Int32) then
      j18 m6
    else
      cl (fX10_remember m6) <| fun _ m8 =>
      cl (fX9_startAt m8 a1) <| fun _ m9 =>
      fX10_run_L40
        (fun (m14 : Mem) =>
          some ((m14 283 3), m14))
        (fun (m16 : Mem) =>
          some ((m16 283 3), m16))
        a2 5000 m9 (0 : Int32)
def rmX10_met : Room := { frames := 2, cells := 0, slots := 0, locals := 44 }
def fX10_met (m0 : Mem) (a1 : Int32) : Option (Int32 × Mem) :=
  cl (fX10_isWord m0 a1) <| fun r2 m1 =>
  if r2 = (0 : Int32) then
    cl (fX10_refuse m1 (-1001 : Int32)) <| fun r4 m3 =>
    some (r4, m3)
  else
    cl (fX1_hasMet 283 m1 a1) <| fun r6 m5 =>
    if r6 = (0 : Int32) then
      some ((0 : Int32), m5)
    else
      some ((1 : Int32), m5)
def rmX10_order : Room := { frames := 0, cells := 0, slots := 0, locals := 0 }
def fX10_order (m0 : Mem) (a1 : Int32) : Option (Int32 × Mem) :=
  if a1 < (0 : Int32) then
    some ((-1 : Int32), m0)
  else
    if a1 < (m0 283 3) then
      ck (inb a1 32) <|
      some ((m0 286 (ix a1)), m0)
    else
      some ((-1 : Int32), m0)
def rmX10_costs : Room := { frames := 5, cells := 0, slots := 0, locals := 114 }
def fX10_costs (m0 : Mem) (a1 : Int32) : Option (Int32 × Mem) :=
  cl (fX10_isWord m0 a1) <| fun r2 m1 =>
  if r2 = (0 : Int32) then
    cl (fX10_refuse m1 (-1001 : Int32)) <| fun r4 m3 =>
    some (r4, m3)
  else
    cl (fX6_meaningOf m1 a1) <| fun r6 m5 =>
    cl (fX4_has m5 r6) <| fun r8 m7 =>
    if r8 = (0 : Int32) then
      some ((0 : Int32), m7)
    else
      ck (inb r6 12) <|
      cl (fX3_costOf (11 + 22 * ix r6) m7 a1) <| fun r11 m10 =>
      some (r11, m10)
def rmX10_undo : Room := { frames := 2, cells := 0, slots := 0, locals := 81 }
def fX10_undo (m0 : Mem) : Option (Int32 × Mem) :=
  if (m0 0 13) = (0 : Int32) then
    cl (fX10_refuse m0 (-1003 : Int32)) <| fun r2 m1 =>
    some (r2, m1)
  else
    lt (sto m0 0 13 ((m0 0 13) - (1 : Int32))) <| fun m3 =>
    ck (inb (((m3 0 12) + (m3 0 13)) % (16 : Int32)) 16) <|
    cl (fX1_become 283 m3 (298 + 4 * ix (((m3 0 12) + (m3 0 13)) % (16 : Int32)))) <| fun _ m5 =>
    some ((m5 0 13), m5)
def rmX10_image : Room := { frames := 2, cells := 0, slots := 0, locals := 81 }
def fX10_image (m0 : Mem) : Option (Int32 × Mem) :=
  cl (fX1_become 3 m0 283) <| fun _ m1 =>
  lt (sto m1 0 10 (m1 9 1)) <| fun m2 =>
  some ((m2 0 10), m2)
def rmX10_back : Room := { frames := 2, cells := 0, slots := 0, locals := 81 }
def fX10_back (m0 : Mem) : Option (Int32 × Mem) :=
  if (m0 0 10) = (-1 : Int32) then
    cl (fX10_refuse m0 (-1003 : Int32)) <| fun r2 m1 =>
    some (r2, m1)
  else
    cl (fX1_become 283 m0 3) <| fun _ m3 =>
    lt (sto m3 9 1 (m3 0 10)) <| fun m4 =>
    lt (sto m4 0 13 (0 : Int32)) <| fun m5 =>
    cl (fX6_forget m5) <| fun _ m6 =>
    some ((m6 0 10), m6)
def rmX10_count : Room := { frames := 2, cells := 0, slots := 0, locals := 44 }
def fX10_count (m0 : Mem) (a1 : Int32) : Option (Int32 × Mem) :=
  if a1 = (0 : Int32) then
    some ((m0 9 1), m0)
  else
  if a1 = (1 : Int32) then
    some ((m0 281 1), m0)
  else
  if a1 = (2 : Int32) then
    some ((m0 1 1), m0)
  else
  if a1 = (3 : Int32) then
    some ((m0 0 13), m0)
  else
  if a1 = (4 : Int32) then
    some ((m0 283 3), m0)
  else
    cl (fX10_refuse m0 (-1001 : Int32)) <| fun r7 m6 =>
    some (r7, m6)
def rmX10_refused : Room := { frames := 2, cells := 0, slots := 0, locals := 44 }
def fX10_refused (m0 : Mem) (a1 : Int32) : Option (Int32 × Mem) :=
  cl (fX10_within m0 a1 (0 : Int32) (2 : Int32)) <| fun r2 m1 =>
  if r2 = (0 : Int32) then
    cl (fX10_refuse m1 (-1001 : Int32)) <| fun r4 m3 =>
    some (r4, m3)
  else
    ck (inb a1 3) <|
    some ((m1 8 (ix a1)), m1)
