def rmX0_init : Room := { frames := 1, cells := 1, slots := 200, locals := 40 }
def fX0_init (k0 : Nat) (m0 : St) (a1 : Int32) : Option (Unit × St) :=
  ck (decide (k0 < m0.1) && kd k0 == 0) <|
  lt (stI m0 k0 1 (0 : Int32)) <| fun m1 =>
  ck (decide (0 ≤ a1) && (decide (ix a1 ≤ 200) && (kd m1.1 == 12 && al m1.1 == ix a1))) <|
  lt (nw m1) <| fun m2 =>
  ck (decide (k0 < m2.1) && (kd k0 == 0 && rsk 0 k0 0 == some m1.1)) <|
  lt (stI m2 k0 0 1) <| fun m3 =>
  some ((), m3)
def rmX1_init : Room := { frames := 1, cells := 3, slots := 72, locals := 40 }
def fX1_init (k0 : Nat) (m0 : St) : Option (Unit × St) :=
  ck (kd m0.1 == 12 && al m0.1 == 32) <|
  lt (nw m0) <| fun m1 =>
  ck (decide (k0 < m1.1) && (kd k0 == 1 && rsk 1 k0 0 == some m0.1)) <|
  lt (stI m1 k0 0 1) <| fun m2 =>
  ck (kd m2.1 == 12 && al m2.1 == 8) <|
  lt (nw m2) <| fun m3 =>
  ck (decide (k0 < m3.1) && (kd k0 == 1 && rsk 1 k0 1 == some m2.1)) <|
  lt (stI m3 k0 1 1) <| fun m4 =>
  ck (kd m4.1 == 12 && al m4.1 == 32) <|
  lt (nw m4) <| fun m5 =>
  ck (decide (k0 < m5.1) && (kd k0 == 1 && rsk 1 k0 2 == some m4.1)) <|
  lt (stI m5 k0 2 1) <| fun m6 =>
  ck (decide (k0 < m6.1) && kd k0 == 1) <|
  lt (stI m6 k0 3 (0 : Int32)) <| fun m7 =>
  some ((), m7)
def rmX2_init : Room := { frames := 1, cells := 1, slots := 8, locals := 40 }
def fX2_init (k0 : Nat) (m0 : St) (a1 : Int32) : Option (Unit × St) :=
  ck (kd m0.1 == 12 && al m0.1 == 8) <|
  lt (nw m0) <| fun m1 =>
  ck (decide (k0 < m1.1) && (kd k0 == 2 && rsk 2 k0 1 == some m0.1)) <|
  lt (stI m1 k0 1 1) <| fun m2 =>
  ck (decide (k0 < m2.1) && kd k0 == 2) <|
  lt (stI m2 k0 2 (0 : Int32)) <| fun m3 =>
  ck (decide (k0 < m3.1) && kd k0 == 2) <|
  lt (stI m3 k0 3 (0 : Int32)) <| fun m4 =>
  ck (decide (k0 < m4.1) && (kd k0 == 2 && isB a1)) <|
  lt (stI m4 k0 0 a1) <| fun m5 =>
  some ((), m5)
def rmX3_init : Room := { frames := 2, cells := 23, slots := 133, locals := 61 }
def fX3_init_L74_b (k109 : St → Option (Unit × St)) (q18 : Nat) (rec : St → Int32 → Option (Unit × St)) (m17 : St) (x19 : Int32) : Option (Unit × St) :=
  if x19 < (8 : Int32) then
    ck (decide (q18 < m17.1) && (kd q18 == 3 && (rsk 3 q18 4 == some (q18 + 1) && m17.2 q18 4 == 1))) <|
    ck (kd m17.1 == 2) <|
    lt (nw m17) <| fun m22 =>
    lt (fun (v23 : Int32) =>
      clS (fX2_init m17.1 m22 v23) <| fun _ m24 =>
      ck (decide ((q18 + 1) < m24.1) && (decide (m17.1 < m24.1) && (kd (q18 + 1) == 14 && (kd m17.1 == 2 && (inb x19 (al (q18 + 1)) && rsk 14 (q18 + 1) (ix x19) == some m17.1))))) <|
      lt (stI m24 (q18 + 1) (ix x19) 1) <| fun m25 =>
      rec m25 (x19 + (1 : Int32))) <| fun j99 =>
    if x19 < (4 : Int32) then
      j99 (0 : Int32)
    else
      j99 (1 : Int32)
  else
    k109 m17
def fX3_init_L74 (k109 : St → Option (Unit × St)) (q18 : Nat) : Nat → St → Int32 → Option (Unit × St)
  | 0 => fun _ _ => none
  | n + 1 => fun m17 x19 => fX3_init_L74_b k109 q18 (fX3_init_L74 k109 q18 n) m17 x19
def fX3_init (k0 : Nat) (m0 : St) : Option (Unit × St) :=
  ck (decide (k0 < m0.1) && kd k0 == 3) <|
  lt (stI m0 k0 0 (0 : Int32)) <| fun m1 =>
  ck (decide (k0 < m1.1) && kd k0 == 3) <|
  lt (stI m1 k0 1 (0 : Int32)) <| fun m2 =>
  ck (decide (k0 < m2.1) && kd k0 == 3) <|
  lt (stI m2 k0 2 (0 : Int32)) <| fun m3 =>
  ck (decide (k0 < m3.1) && kd k0 == 3) <|
  lt (stI m3 k0 3 (0 : Int32)) <| fun m4 =>
  ck (kd m4.1 == 14 && al m4.1 == 8) <|
  lt (nw m4) <| fun m5 =>
  ck (decide (k0 < m5.1) && (kd k0 == 3 && rsk 3 k0 4 == some m4.1)) <|
  lt (stI m5 k0 4 1) <| fun m6 =>
  ck (kd m6.1 == 12 && al m6.1 == 8) <|
  lt (nw m6) <| fun m7 =>
  ck (decide (k0 < m7.1) && (kd k0 == 3 && rsk 3 k0 5 == some m6.1)) <|
  lt (stI m7 k0 5 1) <| fun m8 =>
  ck (decide (k0 < m8.1) && kd k0 == 3) <|
  lt (stI m8 k0 6 (0 : Int32)) <| fun m9 =>
  ck (kd m9.1 == 12 && al m9.1 == 3) <|
  lt (nw m9) <| fun m10 =>
  ck (decide (k0 < m10.1) && (kd k0 == 3 && rsk 3 k0 7 == some m9.1)) <|
  lt (stI m10 k0 7 1) <| fun m11 =>
  ck (kd m11.1 == 12 && al m11.1 == 3) <|
  lt (nw m11) <| fun m12 =>
  ck (decide (k0 < m12.1) && (kd k0 == 3 && rsk 3 k0 8 == some m11.1)) <|
  lt (stI m12 k0 8 1) <| fun m13 =>
  ck (kd m13.1 == 12 && al m13.1 == 3) <|
  lt (nw m13) <| fun m14 =>
  ck (decide (k0 < m14.1) && (kd k0 == 3 && rsk 3 k0 9 == some m13.1)) <|
  lt (stI m14 k0 9 1) <| fun m15 =>
  ck (decide (k0 < m15.1) && kd k0 == 3) <|
  lt (stI m15 k0 10 (0 : Int32)) <| fun m16 =>
  fX3_init_L74
    (fun (m21 : St) =>
      some ((), m21))
    k0 9 m16 (0 : Int32)
def rmX4_init : Room := { frames := 3, cells := 313, slots := 1884, locals := 82 }
def fX4_init_L20_b (k45 : St → Option (Unit × St)) (q5 : Nat) (rec : St → Int32 → Option (Unit × St)) (m4 : St) (x6 : Int32) : Option (Unit × St) :=
  if x6 < (12 : Int32) then
    ck (decide (q5 < m4.1) && (kd q5 == 4 && (rsk 4 q5 0 == some 10 && m4.2 q5 0 == 1))) <|
    ck (kd m4.1 == 3) <|
    lt (nw m4) <| fun m9 =>
    clS (fX3_init m4.1 m9) <| fun _ m10 =>
    ck (decide (10 < m10.1) && (decide (m4.1 < m10.1) && (kd 10 == 13 && (kd m4.1 == 3 && (inb x6 (al 10) && rsk 13 10 (ix x6) == some m4.1))))) <|
    lt (stI m10 10 (ix x6) 1) <| fun m11 =>
    rec m11 (x6 + (1 : Int32))
  else
    k45 m4
def fX4_init_L20 (k45 : St → Option (Unit × St)) (q5 : Nat) : Nat → St → Int32 → Option (Unit × St)
  | 0 => fun _ _ => none
  | n + 1 => fun m4 x6 => fX4_init_L20_b k45 q5 (fX4_init_L20 k45 q5 n) m4 x6
def fX4_init (k0 : Nat) (m0 : St) : Option (Unit × St) :=
  ck (kd m0.1 == 13 && al m0.1 == 12) <|
  lt (nw m0) <| fun m1 =>
  ck (decide (k0 < m1.1) && (kd k0 == 4 && rsk 4 k0 0 == some m0.1)) <|
  lt (stI m1 k0 0 1) <| fun m2 =>
  ck (decide (k0 < m2.1) && kd k0 == 4) <|
  lt (stI m2 k0 1 (0 : Int32)) <| fun m3 =>
  fX4_init_L20
    (fun (m8 : St) =>
      some ((), m8))
    k0 13 m3 (0 : Int32)
def rmX5_init : Room := { frames := 1, cells := 0, slots := 0, locals := 40 }
def fX5_init (k0 : Nat) (m0 : St) (a1 : Nat) (a2 : Nat) (a3 : Nat) : Option (Unit × St) :=
  ck (decide (k0 < m0.1) && kd k0 == 5) <|
  lt (stI m0 k0 3 (0 : Int32)) <| fun m1 =>
  ck (decide (k0 < m1.1) && kd k0 == 5) <|
  lt (stI m1 k0 4 (0 : Int32)) <| fun m2 =>
  ck (decide (k0 < m2.1) && (kd k0 == 5 && rsk 5 k0 0 == some a1)) <|
  lt (stI m2 k0 0 1) <| fun m3 =>
  ck (decide (k0 < m3.1) && (kd k0 == 5 && rsk 5 k0 1 == some a2)) <|
  lt (stI m3 k0 1 1) <| fun m4 =>
  ck (decide (k0 < m4.1) && (kd k0 == 5 && rsk 5 k0 2 == some a3)) <|
  lt (stI m4 k0 2 1) <| fun m5 =>
  some ((), m5)
def rmX6_init : Room := { frames := 1, cells := 5, slots := 4326, locals := 40 }
def fX6_init (k0 : Nat) (m0 : St) (a1 : Nat) : Option (Unit × St) :=
  ck (kd m0.1 == 12 && al m0.1 == 4096) <|
  lt (nw m0) <| fun m1 =>
  ck (decide (k0 < m1.1) && (kd k0 == 6 && rsk 6 k0 1 == some m0.1)) <|
  lt (stI m1 k0 1 1) <| fun m2 =>
  ck (kd m2.1 == 12 && al m2.1 == 12) <|
  lt (nw m2) <| fun m3 =>
  ck (decide (k0 < m3.1) && (kd k0 == 6 && rsk 6 k0 2 == some m2.1)) <|
  lt (stI m3 k0 2 1) <| fun m4 =>
  ck (decide (k0 < m4.1) && (kd k0 == 6 && isB (0 : Int32))) <|
  lt (stI m4 k0 3 (0 : Int32)) <| fun m5 =>
  ck (kd m5.1 == 12 && al m5.1 == 14) <|
  lt (nw m5) <| fun m6 =>
  ck (decide (k0 < m6.1) && (kd k0 == 6 && rsk 6 k0 4 == some m5.1)) <|
  lt (stI m6 k0 4 1) <| fun m7 =>
  ck (kd m7.1 == 12 && al m7.1 == 12) <|
  lt (nw m7) <| fun m8 =>
  ck (decide (k0 < m8.1) && (kd k0 == 6 && rsk 6 k0 5 == some m7.1)) <|
  lt (stI m8 k0 5 1) <| fun m9 =>
  ck (kd m9.1 == 12 && al m9.1 == 192) <|
  lt (nw m9) <| fun m10 =>
  ck (decide (k0 < m10.1) && (kd k0 == 6 && rsk 6 k0 6 == some m9.1)) <|
  lt (stI m10 k0 6 1) <| fun m11 =>
  ck (decide (k0 < m11.1) && kd k0 == 6) <|
  lt (stI m11 k0 7 (0 : Int32)) <| fun m12 =>
  ck (decide (k0 < m12.1) && (kd k0 == 6 && rsk 6 k0 0 == some a1)) <|
  lt (stI m12 k0 0 1) <| fun m13 =>
  some ((), m13)
def rmX7_init : Room := { frames := 1, cells := 0, slots := 0, locals := 40 }
def fX7_init (k0 : Nat) (m0 : St) (a1 : Nat) (a2 : Nat) : Option (Unit × St) :=
  ck (decide (k0 < m0.1) && kd k0 == 7) <|
  lt (stI m0 k0 2 (0 : Int32)) <| fun m1 =>
  ck (decide (k0 < m1.1) && kd k0 == 7) <|
  lt (stI m1 k0 3 (0 : Int32)) <| fun m2 =>
  ck (decide (k0 < m2.1) && (kd k0 == 7 && rsk 7 k0 0 == some a1)) <|
  lt (stI m2 k0 0 1) <| fun m3 =>
  ck (decide (k0 < m3.1) && (kd k0 == 7 && rsk 7 k0 1 == some a2)) <|
  lt (stI m3 k0 1 1) <| fun m4 =>
  some ((), m4)
def rmX8_init : Room := { frames := 1, cells := 6, slots := 2217, locals := 40 }
def fX8_init (k0 : Nat) (m0 : St) (a1 : Nat) : Option (Unit × St) :=
  ck (kd m0.1 == 12 && al m0.1 == 12) <|
  lt (nw m0) <| fun m1 =>
  ck (decide (k0 < m1.1) && (kd k0 == 8 && rsk 8 k0 1 == some m0.1)) <|
  lt (stI m1 k0 1 1) <| fun m2 =>
  ck (kd m2.1 == 12 && al m2.1 == 12) <|
  lt (nw m2) <| fun m3 =>
  ck (decide (k0 < m3.1) && (kd k0 == 8 && rsk 8 k0 2 == some m2.1)) <|
  lt (stI m3 k0 2 1) <| fun m4 =>
  ck (decide (k0 < m4.1) && kd k0 == 8) <|
  lt (stI m4 k0 3 (0 : Int32)) <| fun m5 =>
  ck (decide (k0 < m5.1) && kd k0 == 8) <|
  lt (stI m5 k0 4 (0 : Int32)) <| fun m6 =>
  ck (decide (k0 < m6.1) && kd k0 == 8) <|
  lt (stI m6 k0 5 (0 : Int32)) <| fun m7 =>
  ck (decide (k0 < m7.1) && kd k0 == 8) <|
  lt (stI m7 k0 6 (-1 : Int32)) <| fun m8 =>
  ck (kd m8.1 == 12 && al m8.1 == 6) <|
  lt (nw m8) <| fun m9 =>
  ck (decide (k0 < m9.1) && (kd k0 == 8 && rsk 8 k0 7 == some m8.1)) <|
  lt (stI m9 k0 7 1) <| fun m10 =>
  ck (kd m10.1 == 12 && al m10.1 == 729) <|
  lt (nw m10) <| fun m11 =>
  ck (decide (k0 < m11.1) && (kd k0 == 8 && rsk 8 k0 8 == some m10.1)) <|
  lt (stI m11 k0 8 1) <| fun m12 =>
  ck (kd m12.1 == 12 && al m12.1 == 729) <|
  lt (nw m12) <| fun m13 =>
  ck (decide (k0 < m13.1) && (kd k0 == 8 && rsk 8 k0 9 == some m12.1)) <|
  lt (stI m13 k0 9 1) <| fun m14 =>
  ck (kd m14.1 == 12 && al m14.1 == 729) <|
  lt (nw m14) <| fun m15 =>
  ck (decide (k0 < m15.1) && (kd k0 == 8 && rsk 8 k0 10 == some m14.1)) <|
  lt (stI m15 k0 10 1) <| fun m16 =>
  ck (decide (k0 < m16.1) && (kd k0 == 8 && rsk 8 k0 0 == some a1)) <|
  lt (stI m16 k0 0 1) <| fun m17 =>
  some ((), m17)
def rmX9_init : Room := { frames := 1, cells := 1, slots := 4, locals := 40 }
def fX9_init (k0 : Nat) (m0 : St) (a1 : Nat) (a2 : Nat) (a3 : Nat) : Option (Unit × St) :=
  ck (kd m0.1 == 12 && al m0.1 == 4) <|
  lt (nw m0) <| fun m1 =>
  ck (decide (k0 < m1.1) && (kd k0 == 9 && rsk 9 k0 3 == some m0.1)) <|
  lt (stI m1 k0 3 1) <| fun m2 =>
  ck (decide (k0 < m2.1) && kd k0 == 9) <|
  lt (stI m2 k0 4 (0 : Int32)) <| fun m3 =>
  ck (decide (k0 < m3.1) && kd k0 == 9) <|
  lt (stI m3 k0 5 (0 : Int32)) <| fun m4 =>
  ck (decide (k0 < m4.1) && kd k0 == 9) <|
  lt (stI m4 k0 6 (0 : Int32)) <| fun m5 =>
  ck (decide (k0 < m5.1) && kd k0 == 9) <|
  lt (stI m5 k0 7 (0 : Int32)) <| fun m6 =>
  ck (decide (k0 < m6.1) && kd k0 == 9) <|
  lt (stI m6 k0 8 (0 : Int32)) <| fun m7 =>
  ck (decide (k0 < m7.1) && (kd k0 == 9 && rsk 9 k0 0 == some a1)) <|
  lt (stI m7 k0 0 1) <| fun m8 =>
  ck (decide (k0 < m8.1) && (kd k0 == 9 && rsk 9 k0 1 == some a2)) <|
  lt (stI m8 k0 1 1) <| fun m9 =>
  ck (decide (k0 < m9.1) && (kd k0 == 9 && rsk 9 k0 2 == some a3)) <|
  lt (stI m9 k0 2 1) <| fun m10 =>
  some ((), m10)
def rmX10_init : Room := { frames := 4, cells := 413, slots := 10337, locals := 103 }
def fX10_init_L174_b (k201 : St → Option (Unit × St)) (q39 : Nat) (rec : St → Int32 → Option (Unit × St)) (m38 : St) (x40 : Int32) : Option (Unit × St) :=
  if x40 < (16 : Int32) then
    ck (decide (q39 < m38.1) && (kd q39 == 10 && (rsk 10 q39 11 == some 7 && m38.2 q39 11 == 1))) <|
    ck (kd m38.1 == 1) <|
    lt (nw m38) <| fun m43 =>
    clS (fX1_init m38.1 m43) <| fun _ m44 =>
    ck (decide (7 < m44.1) && (decide (m38.1 < m44.1) && (kd 7 == 15 && (kd m38.1 == 1 && (inb x40 (al 7) && rsk 15 7 (ix x40) == some m38.1))))) <|
    lt (stI m44 7 (ix x40) 1) <| fun m45 =>
    rec m45 (x40 + (1 : Int32))
  else
    k201 m38
def fX10_init_L174 (k201 : St → Option (Unit × St)) (q39 : Nat) : Nat → St → Int32 → Option (Unit × St)
  | 0 => fun _ _ => none
  | n + 1 => fun m38 x40 => fX10_init_L174_b k201 q39 (fX10_init_L174 k201 q39 n) m38 x40
def fX10_init (k0 : Nat) (m0 : St) : Option (Unit × St) :=
  ck (kd m0.1 == 0) <|
  lt (nw m0) <| fun m1 =>
  clS (fX0_init m0.1 m1 (64 : Int32)) <| fun _ m2 =>
  ck (decide (k0 < m2.1) && (kd k0 == 10 && rsk 10 k0 4 == some m0.1)) <|
  lt (stI m2 k0 4 1) <| fun m3 =>
  ck (kd m3.1 == 1) <|
  lt (nw m3) <| fun m4 =>
  clS (fX1_init m3.1 m4) <| fun _ m5 =>
  ck (decide (k0 < m5.1) && (kd k0 == 10 && rsk 10 k0 9 == some m3.1)) <|
  lt (stI m5 k0 9 1) <| fun m6 =>
  ck (decide (k0 < m6.1) && kd k0 == 10) <|
  lt (stI m6 k0 10 (-1 : Int32)) <| fun m7 =>
  ck (kd m7.1 == 15 && al m7.1 == 16) <|
  lt (nw m7) <| fun m8 =>
  ck (decide (k0 < m8.1) && (kd k0 == 10 && rsk 10 k0 11 == some m7.1)) <|
  lt (stI m8 k0 11 1) <| fun m9 =>
  ck (decide (k0 < m9.1) && kd k0 == 10) <|
  lt (stI m9 k0 12 (0 : Int32)) <| fun m10 =>
  ck (decide (k0 < m10.1) && kd k0 == 10) <|
  lt (stI m10 k0 13 (0 : Int32)) <| fun m11 =>
  ck (kd m11.1 == 12 && al m11.1 == 3) <|
  lt (nw m11) <| fun m12 =>
  ck (decide (k0 < m12.1) && (kd k0 == 10 && rsk 10 k0 14 == some m11.1)) <|
  lt (stI m12 k0 14 1) <| fun m13 =>
  ck (kd m13.1 == 4) <|
  lt (nw m13) <| fun m14 =>
  clS (fX4_init m13.1 m14) <| fun _ m15 =>
  ck (kd m15.1 == 6) <|
  lt (nw m15) <| fun m16 =>
  clS (fX6_init m15.1 m16 m13.1) <| fun _ m17 =>
  ck (kd m17.1 == 0) <|
  lt (nw m17) <| fun m18 =>
  clS (fX0_init m17.1 m18 (200 : Int32)) <| fun _ m19 =>
  ck (kd m19.1 == 1) <|
  lt (nw m19) <| fun m20 =>
  clS (fX1_init m19.1 m20) <| fun _ m21 =>
  ck (decide (k0 < m21.1) && (kd k0 == 10 && rsk 10 k0 0 == some m13.1)) <|
  lt (stI m21 k0 0 1) <| fun m22 =>
  ck (decide (k0 < m22.1) && (kd k0 == 10 && rsk 10 k0 1 == some m15.1)) <|
  lt (stI m22 k0 1 1) <| fun m23 =>
  ck (decide (k0 < m23.1) && (kd k0 == 10 && rsk 10 k0 3 == some m17.1)) <|
  lt (stI m23 k0 3 1) <| fun m24 =>
  ck (decide (k0 < m24.1) && (kd k0 == 10 && rsk 10 k0 7 == some m19.1)) <|
  lt (stI m24 k0 7 1) <| fun m25 =>
  ck (kd m25.1 == 8) <|
  lt (nw m25) <| fun m26 =>
  clS (fX8_init m25.1 m26 m13.1) <| fun _ m27 =>
  ck (decide (k0 < m27.1) && (kd k0 == 10 && rsk 10 k0 2 == some m25.1)) <|
  lt (stI m27 k0 2 1) <| fun m28 =>
  ck (kd m28.1 == 7) <|
  lt (nw m28) <| fun m29 =>
  clS (fX7_init m28.1 m29 m17.1 m13.1) <| fun _ m30 =>
  ck (decide (k0 < m30.1) && (kd k0 == 10 && rsk 10 k0 5 == some m28.1)) <|
  lt (stI m30 k0 5 1) <| fun m31 =>
  ck (kd m31.1 == 5) <|
  lt (nw m31) <| fun m32 =>
  clS (fX5_init m31.1 m32 m17.1 m13.1 m15.1) <| fun _ m33 =>
  ck (decide (k0 < m33.1) && (kd k0 == 10 && rsk 10 k0 6 == some m31.1)) <|
  lt (stI m33 k0 6 1) <| fun m34 =>
  ck (kd m34.1 == 9) <|
  lt (nw m34) <| fun m35 =>
  clS (fX9_init m34.1 m35 m13.1 m15.1 m19.1) <| fun _ m36 =>
  ck (decide (k0 < m36.1) && (kd k0 == 10 && rsk 10 k0 8 == some m34.1)) <|
  lt (stI m36 k0 8 1) <| fun m37 =>
  fX10_init_L174
    (fun (m42 : St) =>
      some ((), m42))
    k0 17 m37 (0 : Int32)
def rmX11_init : Room := { frames := 1, cells := 22, slots := 10457, locals := 40 }
def fX11_init (k0 : Nat) (m0 : St) : Option (Unit × St) :=
  ck (kd m0.1 == 12 && al m0.1 == 3) <|
  lt (nw m0) <| fun m1 =>
  ck (decide (k0 < m1.1) && (kd k0 == 11 && rsk 11 k0 0 == some m0.1)) <|
  lt (stI m1 k0 0 1) <| fun m2 =>
  ck (kd m2.1 == 12 && al m2.1 == 12) <|
  lt (nw m2) <| fun m3 =>
  ck (decide (k0 < m3.1) && (kd k0 == 11 && rsk 11 k0 1 == some m2.1)) <|
  lt (stI m3 k0 1 1) <| fun m4 =>
  ck (kd m4.1 == 12 && al m4.1 == 36) <|
  lt (nw m4) <| fun m5 =>
  ck (decide (k0 < m5.1) && (kd k0 == 11 && rsk 11 k0 2 == some m4.1)) <|
  lt (stI m5 k0 2 1) <| fun m6 =>
  ck (kd m6.1 == 12 && al m6.1 == 144) <|
  lt (nw m6) <| fun m7 =>
  ck (decide (k0 < m7.1) && (kd k0 == 11 && rsk 11 k0 3 == some m6.1)) <|
  lt (stI m7 k0 3 1) <| fun m8 =>
  ck (kd m8.1 == 12 && al m8.1 == 12) <|
  lt (nw m8) <| fun m9 =>
  ck (decide (k0 < m9.1) && (kd k0 == 11 && rsk 11 k0 4 == some m8.1)) <|
  lt (stI m9 k0 4 1) <| fun m10 =>
  ck (kd m10.1 == 12 && al m10.1 == 108) <|
  lt (nw m10) <| fun m11 =>
  ck (decide (k0 < m11.1) && (kd k0 == 11 && rsk 11 k0 5 == some m10.1)) <|
  lt (stI m11 k0 5 1) <| fun m12 =>
  ck (kd m12.1 == 12 && al m12.1 == 12) <|
  lt (nw m12) <| fun m13 =>
  ck (decide (k0 < m13.1) && (kd k0 == 11 && rsk 11 k0 6 == some m12.1)) <|
  lt (stI m13 k0 6 1) <| fun m14 =>
  ck (kd m14.1 == 12 && al m14.1 == 12) <|
  lt (nw m14) <| fun m15 =>
  ck (decide (k0 < m15.1) && (kd k0 == 11 && rsk 11 k0 7 == some m14.1)) <|
  lt (stI m15 k0 7 1) <| fun m16 =>
  ck (kd m16.1 == 12 && al m16.1 == 4096) <|
  lt (nw m16) <| fun m17 =>
  ck (decide (k0 < m17.1) && (kd k0 == 11 && rsk 11 k0 9 == some m16.1)) <|
  lt (stI m17 k0 9 1) <| fun m18 =>
  ck (kd m18.1 == 12 && al m18.1 == 4096) <|
  lt (nw m18) <| fun m19 =>
  ck (decide (k0 < m19.1) && (kd k0 == 11 && rsk 11 k0 10 == some m18.1)) <|
  lt (stI m19 k0 10 1) <| fun m20 =>
  ck (kd m20.1 == 12 && al m20.1 == 200) <|
  lt (nw m20) <| fun m21 =>
  ck (decide (k0 < m21.1) && (kd k0 == 11 && rsk 11 k0 12 == some m20.1)) <|
  lt (stI m21 k0 12 1) <| fun m22 =>
  ck (kd m22.1 == 12 && al m22.1 == 64) <|
  lt (nw m22) <| fun m23 =>
  ck (decide (k0 < m23.1) && (kd k0 == 11 && rsk 11 k0 14 == some m22.1)) <|
  lt (stI m23 k0 14 1) <| fun m24 =>
  ck (kd m24.1 == 12 && al m24.1 == 73) <|
  lt (nw m24) <| fun m25 =>
  ck (decide (k0 < m25.1) && (kd k0 == 11 && rsk 11 k0 16 == some m24.1)) <|
  lt (stI m25 k0 16 1) <| fun m26 =>
  ck (kd m26.1 == 12 && al m26.1 == 1168) <|
  lt (nw m26) <| fun m27 =>
  ck (decide (k0 < m27.1) && (kd k0 == 11 && rsk 11 k0 17 == some m26.1)) <|
  lt (stI m27 k0 17 1) <| fun m28 =>
  ck (kd m28.1 == 12 && al m28.1 == 73) <|
  lt (nw m28) <| fun m29 =>
  ck (decide (k0 < m29.1) && (kd k0 == 11 && rsk 11 k0 19 == some m28.1)) <|
  lt (stI m29 k0 19 1) <| fun m30 =>
  ck (kd m30.1 == 12 && al m30.1 == 12) <|
  lt (nw m30) <| fun m31 =>
  ck (decide (k0 < m31.1) && (kd k0 == 11 && rsk 11 k0 20 == some m30.1)) <|
  lt (stI m31 k0 20 1) <| fun m32 =>
  ck (kd m32.1 == 12 && al m32.1 == 36) <|
  lt (nw m32) <| fun m33 =>
  ck (decide (k0 < m33.1) && (kd k0 == 11 && rsk 11 k0 21 == some m32.1)) <|
  lt (stI m33 k0 21 1) <| fun m34 =>
  ck (kd m34.1 == 12 && al m34.1 == 144) <|
  lt (nw m34) <| fun m35 =>
  ck (decide (k0 < m35.1) && (kd k0 == 11 && rsk 11 k0 22 == some m34.1)) <|
  lt (stI m35 k0 22 1) <| fun m36 =>
  ck (kd m36.1 == 12 && al m36.1 == 12) <|
  lt (nw m36) <| fun m37 =>
  ck (decide (k0 < m37.1) && (kd k0 == 11 && rsk 11 k0 23 == some m36.1)) <|
  lt (stI m37 k0 23 1) <| fun m38 =>
  ck (kd m38.1 == 12 && al m38.1 == 108) <|
  lt (nw m38) <| fun m39 =>
  ck (decide (k0 < m39.1) && (kd k0 == 11 && rsk 11 k0 24 == some m38.1)) <|
  lt (stI m39 k0 24 1) <| fun m40 =>
  ck (kd m40.1 == 12 && al m40.1 == 32) <|
  lt (nw m40) <| fun m41 =>
  ck (decide (k0 < m41.1) && (kd k0 == 11 && rsk 11 k0 34 == some m40.1)) <|
  lt (stI m41 k0 34 1) <| fun m42 =>
  ck (kd m42.1 == 12 && al m42.1 == 4) <|
  lt (nw m42) <| fun m43 =>
  ck (decide (k0 < m43.1) && (kd k0 == 11 && rsk 11 k0 35 == some m42.1)) <|
  lt (stI m43 k0 35 1) <| fun m44 =>
  ck (decide (k0 < m44.1) && kd k0 == 11) <|
  lt (stI m44 k0 8 (0 : Int32)) <| fun m45 =>
  some ((), m45)
