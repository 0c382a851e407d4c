/-! ===== the start, as a list of what was written ===== -/
abbrev En : Type := Nat ⊕ (Nat × Nat × Int32)
abbrev Sz : Type := Nat × List En
def zmem : List En → Mem
  | [] => fun _ _ => 0
  | .inl k :: l => fun a b => if a = k then 0 else zmem l a b
  | .inr w :: l => sto (zmem l) w.1 w.2.1 w.2.2
def znw (s : Sz) : Sz := (s.1 + 1, .inl s.1 :: s.2)
def zst (s : Sz) (k j : Nat) (v : Int32) : Sz := (s.1, .inr (k, j, v) :: s.2)
def zcl {α β : Type} (x : Option (α × Sz)) (f : α → Sz → Option β) : Option β := match x with
  | some (a, m) => f a m
  | none => none
def zX0_init (k0 : Nat) (m0 : Sz) (a1 : Int32) : Option (Unit × Sz) :=
  ck (decide (k0 < m0.1) && kd k0 == 0) <|
  lt (zst m0 k0 1 (0 : Int32)) <| fun m1 =>
  ck (decide (0 ≤ a1) && (decide (ix a1 ≤ 200) && (kd m1.1 == 12 && al m1.1 == ix a1))) <|
  lt (znw m1) <| fun m2 =>
  ck (decide (k0 < m2.1) && (kd k0 == 0 && rsk 0 k0 0 == some m1.1)) <|
  lt (zst m2 k0 0 1) <| fun m3 =>
  some ((), m3)
def zX1_init (k0 : Nat) (m0 : Sz) : Option (Unit × Sz) :=
  ck (kd m0.1 == 12 && al m0.1 == 32) <|
  lt (znw m0) <| fun m1 =>
  ck (decide (k0 < m1.1) && (kd k0 == 1 && rsk 1 k0 0 == some m0.1)) <|
  lt (zst m1 k0 0 1) <| fun m2 =>
  ck (kd m2.1 == 12 && al m2.1 == 8) <|
  lt (znw m2) <| fun m3 =>
  ck (decide (k0 < m3.1) && (kd k0 == 1 && rsk 1 k0 1 == some m2.1)) <|
  lt (zst m3 k0 1 1) <| fun m4 =>
  ck (kd m4.1 == 12 && al m4.1 == 32) <|
  lt (znw m4) <| fun m5 =>
  ck (decide (k0 < m5.1) && (kd k0 == 1 && rsk 1 k0 2 == some m4.1)) <|
  lt (zst m5 k0 2 1) <| fun m6 =>
  ck (decide (k0 < m6.1) && kd k0 == 1) <|
  lt (zst m6 k0 3 (0 : Int32)) <| fun m7 =>
  some ((), m7)
def zX2_init (k0 : Nat) (m0 : Sz) (a1 : Int32) : Option (Unit × Sz) :=
  ck (kd m0.1 == 12 && al m0.1 == 8) <|
  lt (znw m0) <| fun m1 =>
  ck (decide (k0 < m1.1) && (kd k0 == 2 && rsk 2 k0 1 == some m0.1)) <|
  lt (zst m1 k0 1 1) <| fun m2 =>
  ck (decide (k0 < m2.1) && kd k0 == 2) <|
  lt (zst m2 k0 2 (0 : Int32)) <| fun m3 =>
  ck (decide (k0 < m3.1) && kd k0 == 2) <|
  lt (zst m3 k0 3 (0 : Int32)) <| fun m4 =>
  ck (decide (k0 < m4.1) && (kd k0 == 2 && isB a1)) <|
  lt (zst m4 k0 0 a1) <| fun m5 =>
  some ((), m5)
def zX3_init_L74_b (k109 : Sz → Option (Unit × Sz)) (q18 : Nat) (rec : Sz → Int32 → Option (Unit × Sz)) (m17 : Sz) (x19 : Int32) : Option (Unit × Sz) :=
  if x19 < (8 : Int32) then
    ck (decide (q18 < m17.1) && (kd q18 == 3 && (rsk 3 q18 4 == some (q18 + 1) && zmem m17.2 q18 4 == 1))) <|
    ck (kd m17.1 == 2) <|
    lt (znw m17) <| fun m22 =>
    lt (fun (v23 : Int32) =>
      zcl (zX2_init m17.1 m22 v23) <| fun _ m24 =>
      ck (decide ((q18 + 1) < m24.1) && (decide (m17.1 < m24.1) && (kd (q18 + 1) == 14 && (kd m17.1 == 2 && (inb x19 (al (q18 + 1)) && rsk 14 (q18 + 1) (ix x19) == some m17.1))))) <|
      lt (zst m24 (q18 + 1) (ix x19) 1) <| fun m25 =>
      rec m25 (x19 + (1 : Int32))) <| fun j99 =>
    if x19 < (4 : Int32) then
      j99 (0 : Int32)
    else
      j99 (1 : Int32)
  else
    k109 m17
def zX3_init_L74 (k109 : Sz → Option (Unit × Sz)) (q18 : Nat) : Nat → Sz → Int32 → Option (Unit × Sz)
  | 0 => fun _ _ => none
  | n + 1 => fun m17 x19 => zX3_init_L74_b k109 q18 (zX3_init_L74 k109 q18 n) m17 x19
def zX3_init (k0 : Nat) (m0 : Sz) : Option (Unit × Sz) :=
  ck (decide (k0 < m0.1) && kd k0 == 3) <|
  lt (zst m0 k0 0 (0 : Int32)) <| fun m1 =>
  ck (decide (k0 < m1.1) && kd k0 == 3) <|
  lt (zst m1 k0 1 (0 : Int32)) <| fun m2 =>
  ck (decide (k0 < m2.1) && kd k0 == 3) <|
  lt (zst m2 k0 2 (0 : Int32)) <| fun m3 =>
  ck (decide (k0 < m3.1) && kd k0 == 3) <|
  lt (zst m3 k0 3 (0 : Int32)) <| fun m4 =>
  ck (kd m4.1 == 14 && al m4.1 == 8) <|
  lt (znw m4) <| fun m5 =>
  ck (decide (k0 < m5.1) && (kd k0 == 3 && rsk 3 k0 4 == some m4.1)) <|
  lt (zst m5 k0 4 1) <| fun m6 =>
  ck (kd m6.1 == 12 && al m6.1 == 8) <|
  lt (znw m6) <| fun m7 =>
  ck (decide (k0 < m7.1) && (kd k0 == 3 && rsk 3 k0 5 == some m6.1)) <|
  lt (zst m7 k0 5 1) <| fun m8 =>
  ck (decide (k0 < m8.1) && kd k0 == 3) <|
  lt (zst m8 k0 6 (0 : Int32)) <| fun m9 =>
  ck (kd m9.1 == 12 && al m9.1 == 3) <|
  lt (znw m9) <| fun m10 =>
  ck (decide (k0 < m10.1) && (kd k0 == 3 && rsk 3 k0 7 == some m9.1)) <|
  lt (zst m10 k0 7 1) <| fun m11 =>
  ck (kd m11.1 == 12 && al m11.1 == 3) <|
  lt (znw m11) <| fun m12 =>
  ck (decide (k0 < m12.1) && (kd k0 == 3 && rsk 3 k0 8 == some m11.1)) <|
  lt (zst m12 k0 8 1) <| fun m13 =>
  ck (kd m13.1 == 12 && al m13.1 == 3) <|
  lt (znw m13) <| fun m14 =>
  ck (decide (k0 < m14.1) && (kd k0 == 3 && rsk 3 k0 9 == some m13.1)) <|
  lt (zst m14 k0 9 1) <| fun m15 =>
  ck (decide (k0 < m15.1) && kd k0 == 3) <|
  lt (zst m15 k0 10 (0 : Int32)) <| fun m16 =>
  zX3_init_L74
    (fun (m21 : Sz) =>
      some ((), m21))
    k0 9 m16 (0 : Int32)
def zX4_init_L20_b (k45 : Sz → Option (Unit × Sz)) (q5 : Nat) (rec : Sz → Int32 → Option (Unit × Sz)) (m4 : Sz) (x6 : Int32) : Option (Unit × Sz) :=
  if x6 < (12 : Int32) then
    ck (decide (q5 < m4.1) && (kd q5 == 4 && (rsk 4 q5 0 == some 10 && zmem m4.2 q5 0 == 1))) <|
    ck (kd m4.1 == 3) <|
    lt (znw m4) <| fun m9 =>
    zcl (zX3_init m4.1 m9) <| fun _ m10 =>
    ck (decide (10 < m10.1) && (decide (m4.1 < m10.1) && (kd 10 == 13 && (kd m4.1 == 3 && (inb x6 (al 10) && rsk 13 10 (ix x6) == some m4.1))))) <|
    lt (zst m10 10 (ix x6) 1) <| fun m11 =>
    rec m11 (x6 + (1 : Int32))
  else
    k45 m4
def zX4_init_L20 (k45 : Sz → Option (Unit × Sz)) (q5 : Nat) : Nat → Sz → Int32 → Option (Unit × Sz)
  | 0 => fun _ _ => none
  | n + 1 => fun m4 x6 => zX4_init_L20_b k45 q5 (zX4_init_L20 k45 q5 n) m4 x6
def zX4_init (k0 : Nat) (m0 : Sz) : Option (Unit × Sz) :=
  ck (kd m0.1 == 13 && al m0.1 == 12) <|
  lt (znw m0) <| fun m1 =>
  ck (decide (k0 < m1.1) && (kd k0 == 4 && rsk 4 k0 0 == some m0.1)) <|
  lt (zst m1 k0 0 1) <| fun m2 =>
  ck (decide (k0 < m2.1) && kd k0 == 4) <|
  lt (zst m2 k0 1 (0 : Int32)) <| fun m3 =>
  zX4_init_L20
    (fun (m8 : Sz) =>
      some ((), m8))
    k0 13 m3 (0 : Int32)
def zX5_init (k0 : Nat) (m0 : Sz) (a1 : Nat) (a2 : Nat) (a3 : Nat) : Option (Unit × Sz) :=
  ck (decide (k0 < m0.1) && kd k0 == 5) <|
  lt (zst m0 k0 3 (0 : Int32)) <| fun m1 =>
  ck (decide (k0 < m1.1) && kd k0 == 5) <|
  lt (zst m1 k0 4 (0 : Int32)) <| fun m2 =>
  ck (decide (k0 < m2.1) && (kd k0 == 5 && rsk 5 k0 0 == some a1)) <|
  lt (zst m2 k0 0 1) <| fun m3 =>
  ck (decide (k0 < m3.1) && (kd k0 == 5 && rsk 5 k0 1 == some a2)) <|
  lt (zst m3 k0 1 1) <| fun m4 =>
  ck (decide (k0 < m4.1) && (kd k0 == 5 && rsk 5 k0 2 == some a3)) <|
  lt (zst m4 k0 2 1) <| fun m5 =>
  some ((), m5)
def zX6_init (k0 : Nat) (m0 : Sz) (a1 : Nat) : Option (Unit × Sz) :=
  ck (kd m0.1 == 12 && al m0.1 == 4096) <|
  lt (znw m0) <| fun m1 =>
  ck (decide (k0 < m1.1) && (kd k0 == 6 && rsk 6 k0 1 == some m0.1)) <|
  lt (zst m1 k0 1 1) <| fun m2 =>
  ck (kd m2.1 == 12 && al m2.1 == 12) <|
  lt (znw m2) <| fun m3 =>
  ck (decide (k0 < m3.1) && (kd k0 == 6 && rsk 6 k0 2 == some m2.1)) <|
  lt (zst m3 k0 2 1) <| fun m4 =>
  ck (decide (k0 < m4.1) && (kd k0 == 6 && isB (0 : Int32))) <|
  lt (zst m4 k0 3 (0 : Int32)) <| fun m5 =>
  ck (kd m5.1 == 12 && al m5.1 == 14) <|
  lt (znw m5) <| fun m6 =>
  ck (decide (k0 < m6.1) && (kd k0 == 6 && rsk 6 k0 4 == some m5.1)) <|
  lt (zst m6 k0 4 1) <| fun m7 =>
  ck (kd m7.1 == 12 && al m7.1 == 12) <|
  lt (znw m7) <| fun m8 =>
  ck (decide (k0 < m8.1) && (kd k0 == 6 && rsk 6 k0 5 == some m7.1)) <|
  lt (zst m8 k0 5 1) <| fun m9 =>
  ck (kd m9.1 == 12 && al m9.1 == 192) <|
  lt (znw m9) <| fun m10 =>
  ck (decide (k0 < m10.1) && (kd k0 == 6 && rsk 6 k0 6 == some m9.1)) <|
  lt (zst m10 k0 6 1) <| fun m11 =>
  ck (decide (k0 < m11.1) && kd k0 == 6) <|
  lt (zst m11 k0 7 (0 : Int32)) <| fun m12 =>
  ck (decide (k0 < m12.1) && (kd k0 == 6 && rsk 6 k0 0 == some a1)) <|
  lt (zst m12 k0 0 1) <| fun m13 =>
  some ((), m13)
def zX7_init (k0 : Nat) (m0 : Sz) (a1 : Nat) (a2 : Nat) : Option (Unit × Sz) :=
  ck (decide (k0 < m0.1) && kd k0 == 7) <|
  lt (zst m0 k0 2 (0 : Int32)) <| fun m1 =>
  ck (decide (k0 < m1.1) && kd k0 == 7) <|
  lt (zst m1 k0 3 (0 : Int32)) <| fun m2 =>
  ck (decide (k0 < m2.1) && (kd k0 == 7 && rsk 7 k0 0 == some a1)) <|
  lt (zst m2 k0 0 1) <| fun m3 =>
  ck (decide (k0 < m3.1) && (kd k0 == 7 && rsk 7 k0 1 == some a2)) <|
  lt (zst m3 k0 1 1) <| fun m4 =>
  some ((), m4)
def zX8_init (k0 : Nat) (m0 : Sz) (a1 : Nat) : Option (Unit × Sz) :=
  ck (kd m0.1 == 12 && al m0.1 == 12) <|
  lt (znw m0) <| fun m1 =>
  ck (decide (k0 < m1.1) && (kd k0 == 8 && rsk 8 k0 1 == some m0.1)) <|
  lt (zst m1 k0 1 1) <| fun m2 =>
  ck (kd m2.1 == 12 && al m2.1 == 12) <|
  lt (znw m2) <| fun m3 =>
  ck (decide (k0 < m3.1) && (kd k0 == 8 && rsk 8 k0 2 == some m2.1)) <|
  lt (zst m3 k0 2 1) <| fun m4 =>
  ck (decide (k0 < m4.1) && kd k0 == 8) <|
  lt (zst m4 k0 3 (0 : Int32)) <| fun m5 =>
  ck (decide (k0 < m5.1) && kd k0 == 8) <|
  lt (zst m5 k0 4 (0 : Int32)) <| fun m6 =>
  ck (decide (k0 < m6.1) && kd k0 == 8) <|
  lt (zst m6 k0 5 (0 : Int32)) <| fun m7 =>
  ck (decide (k0 < m7.1) && kd k0 == 8) <|
  lt (zst m7 k0 6 (-1 : Int32)) <| fun m8 =>
  ck (kd m8.1 == 12 && al m8.1 == 6) <|
  lt (znw m8) <| fun m9 =>
  ck (decide (k0 < m9.1) && (kd k0 == 8 && rsk 8 k0 7 == some m8.1)) <|
  lt (zst m9 k0 7 1) <| fun m10 =>
  ck (kd m10.1 == 12 && al m10.1 == 729) <|
  lt (znw m10) <| fun m11 =>
  ck (decide (k0 < m11.1) && (kd k0 == 8 && rsk 8 k0 8 == some m10.1)) <|
  lt (zst m11 k0 8 1) <| fun m12 =>
  ck (kd m12.1 == 12 && al m12.1 == 729) <|
  lt (znw m12) <| fun m13 =>
  ck (decide (k0 < m13.1) && (kd k0 == 8 && rsk 8 k0 9 == some m12.1)) <|
  lt (zst m13 k0 9 1) <| fun m14 =>
  ck (kd m14.1 == 12 && al m14.1 == 729) <|
  lt (znw m14) <| fun m15 =>
  ck (decide (k0 < m15.1) && (kd k0 == 8 && rsk 8 k0 10 == some m14.1)) <|
  lt (zst m15 k0 10 1) <| fun m16 =>
  ck (decide (k0 < m16.1) && (kd k0 == 8 && rsk 8 k0 0 == some a1)) <|
  lt (zst m16 k0 0 1) <| fun m17 =>
  some ((), m17)
def zX9_init (k0 : Nat) (m0 : Sz) (a1 : Nat) (a2 : Nat) (a3 : Nat) : Option (Unit × Sz) :=
  ck (kd m0.1 == 12 && al m0.1 == 4) <|
  lt (znw m0) <| fun m1 =>
  ck (decide (k0 < m1.1) && (kd k0 == 9 && rsk 9 k0 3 == some m0.1)) <|
  lt (zst m1 k0 3 1) <| fun m2 =>
  ck (decide (k0 < m2.1) && kd k0 == 9) <|
  lt (zst m2 k0 4 (0 : Int32)) <| fun m3 =>
  ck (decide (k0 < m3.1) && kd k0 == 9) <|
  lt (zst m3 k0 5 (0 : Int32)) <| fun m4 =>
  ck (decide (k0 < m4.1) && kd k0 == 9) <|
  lt (zst m4 k0 6 (0 : Int32)) <| fun m5 =>
  ck (decide (k0 < m5.1) && kd k0 == 9) <|
  lt (zst m5 k0 7 (0 : Int32)) <| fun m6 =>
  ck (decide (k0 < m6.1) && kd k0 == 9) <|
  lt (zst m6 k0 8 (0 : Int32)) <| fun m7 =>
  ck (decide (k0 < m7.1) && (kd k0 == 9 && rsk 9 k0 0 == some a1)) <|
  lt (zst m7 k0 0 1) <| fun m8 =>
  ck (decide (k0 < m8.1) && (kd k0 == 9 && rsk 9 k0 1 == some a2)) <|
  lt (zst m8 k0 1 1) <| fun m9 =>
  ck (decide (k0 < m9.1) && (kd k0 == 9 && rsk 9 k0 2 == some a3)) <|
  lt (zst m9 k0 2 1) <| fun m10 =>
  some ((), m10)
def zX10_init_L174_b (k201 : Sz → Option (Unit × Sz)) (q39 : Nat) (rec : Sz → Int32 → Option (Unit × Sz)) (m38 : Sz) (x40 : Int32) : Option (Unit × Sz) :=
  if x40 < (16 : Int32) then
    ck (decide (q39 < m38.1) && (kd q39 == 10 && (rsk 10 q39 11 == some 7 && zmem m38.2 q39 11 == 1))) <|
    ck (kd m38.1 == 1) <|
    lt (znw m38) <| fun m43 =>
    zcl (zX1_init m38.1 m43) <| fun _ m44 =>
    ck (decide (7 < m44.1) && (decide (m38.1 < m44.1) && (kd 7 == 15 && (kd m38.1 == 1 && (inb x40 (al 7) && rsk 15 7 (ix x40) == some m38.1))))) <|
    lt (zst m44 7 (ix x40) 1) <| fun m45 =>
    rec m45 (x40 + (1 : Int32))
  else
    k201 m38
def zX10_init_L174 (k201 : Sz → Option (Unit × Sz)) (q39 : Nat) : Nat → Sz → Int32 → Option (Unit × Sz)
  | 0 => fun _ _ => none
  | n + 1 => fun m38 x40 => zX10_init_L174_b k201 q39 (zX10_init_L174 k201 q39 n) m38 x40
def zX10_init (k0 : Nat) (m0 : Sz) : Option (Unit × Sz) :=
  ck (kd m0.1 == 0) <|
  lt (znw m0) <| fun m1 =>
  zcl (zX0_init m0.1 m1 (64 : Int32)) <| fun _ m2 =>
  ck (decide (k0 < m2.1) && (kd k0 == 10 && rsk 10 k0 4 == some m0.1)) <|
  lt (zst m2 k0 4 1) <| fun m3 =>
  ck (kd m3.1 == 1) <|
  lt (znw m3) <| fun m4 =>
  zcl (zX1_init m3.1 m4) <| fun _ m5 =>
  ck (decide (k0 < m5.1) && (kd k0 == 10 && rsk 10 k0 9 == some m3.1)) <|
  lt (zst m5 k0 9 1) <| fun m6 =>
  ck (decide (k0 < m6.1) && kd k0 == 10) <|
  lt (zst m6 k0 10 (-1 : Int32)) <| fun m7 =>
  ck (kd m7.1 == 15 && al m7.1 == 16) <|
  lt (znw m7) <| fun m8 =>
  ck (decide (k0 < m8.1) && (kd k0 == 10 && rsk 10 k0 11 == some m7.1)) <|
  lt (zst m8 k0 11 1) <| fun m9 =>
  ck (decide (k0 < m9.1) && kd k0 == 10) <|
  lt (zst m9 k0 12 (0 : Int32)) <| fun m10 =>
  ck (decide (k0 < m10.1) && kd k0 == 10) <|
  lt (zst m10 k0 13 (0 : Int32)) <| fun m11 =>
  ck (kd m11.1 == 12 && al m11.1 == 3) <|
  lt (znw m11) <| fun m12 =>
  ck (decide (k0 < m12.1) && (kd k0 == 10 && rsk 10 k0 14 == some m11.1)) <|
  lt (zst m12 k0 14 1) <| fun m13 =>
  ck (kd m13.1 == 4) <|
  lt (znw m13) <| fun m14 =>
  zcl (zX4_init m13.1 m14) <| fun _ m15 =>
  ck (kd m15.1 == 6) <|
  lt (znw m15) <| fun m16 =>
  zcl (zX6_init m15.1 m16 m13.1) <| fun _ m17 =>
  ck (kd m17.1 == 0) <|
  lt (znw m17) <| fun m18 =>
  zcl (zX0_init m17.1 m18 (200 : Int32)) <| fun _ m19 =>
  ck (kd m19.1 == 1) <|
  lt (znw m19) <| fun m20 =>
  zcl (zX1_init m19.1 m20) <| fun _ m21 =>
  ck (decide (k0 < m21.1) && (kd k0 == 10 && rsk 10 k0 0 == some m13.1)) <|
  lt (zst m21 k0 0 1) <| fun m22 =>
  ck (decide (k0 < m22.1) && (kd k0 == 10 && rsk 10 k0 1 == some m15.1)) <|
  lt (zst m22 k0 1 1) <| fun m23 =>
  ck (decide (k0 < m23.1) && (kd k0 == 10 && rsk 10 k0 3 == some m17.1)) <|
  lt (zst m23 k0 3 1) <| fun m24 =>
  ck (decide (k0 < m24.1) && (kd k0 == 10 && rsk 10 k0 7 == some m19.1)) <|
  lt (zst m24 k0 7 1) <| fun m25 =>
  ck (kd m25.1 == 8) <|
  lt (znw m25) <| fun m26 =>
  zcl (zX8_init m25.1 m26 m13.1) <| fun _ m27 =>
  ck (decide (k0 < m27.1) && (kd k0 == 10 && rsk 10 k0 2 == some m25.1)) <|
  lt (zst m27 k0 2 1) <| fun m28 =>
  ck (kd m28.1 == 7) <|
  lt (znw m28) <| fun m29 =>
  zcl (zX7_init m28.1 m29 m17.1 m13.1) <| fun _ m30 =>
  ck (decide (k0 < m30.1) && (kd k0 == 10 && rsk 10 k0 5 == some m28.1)) <|
  lt (zst m30 k0 5 1) <| fun m31 =>
  ck (kd m31.1 == 5) <|
  lt (znw m31) <| fun m32 =>
  zcl (zX5_init m31.1 m32 m17.1 m13.1 m15.1) <| fun _ m33 =>
  ck (decide (k0 < m33.1) && (kd k0 == 10 && rsk 10 k0 6 == some m31.1)) <|
  lt (zst m33 k0 6 1) <| fun m34 =>
  ck (kd m34.1 == 9) <|
  lt (znw m34) <| fun m35 =>
  zcl (zX9_init m34.1 m35 m13.1 m15.1 m19.1) <| fun _ m36 =>
  ck (decide (k0 < m36.1) && (kd k0 == 10 && rsk 10 k0 8 == some m34.1)) <|
  lt (zst m36 k0 8 1) <| fun m37 =>
  zX10_init_L174
    (fun (m42 : Sz) =>
      some ((), m42))
    k0 17 m37 (0 : Int32)
def zX11_init (k0 : Nat) (m0 : Sz) : Option (Unit × Sz) :=
  ck (kd m0.1 == 12 && al m0.1 == 3) <|
  lt (znw m0) <| fun m1 =>
  ck (decide (k0 < m1.1) && (kd k0 == 11 && rsk 11 k0 0 == some m0.1)) <|
  lt (zst m1 k0 0 1) <| fun m2 =>
  ck (kd m2.1 == 12 && al m2.1 == 12) <|
  lt (znw m2) <| fun m3 =>
  ck (decide (k0 < m3.1) && (kd k0 == 11 && rsk 11 k0 1 == some m2.1)) <|
  lt (zst m3 k0 1 1) <| fun m4 =>
  ck (kd m4.1 == 12 && al m4.1 == 36) <|
  lt (znw m4) <| fun m5 =>
  ck (decide (k0 < m5.1) && (kd k0 == 11 && rsk 11 k0 2 == some m4.1)) <|
  lt (zst m5 k0 2 1) <| fun m6 =>
  ck (kd m6.1 == 12 && al m6.1 == 144) <|
  lt (znw m6) <| fun m7 =>
  ck (decide (k0 < m7.1) && (kd k0 == 11 && rsk 11 k0 3 == some m6.1)) <|
  lt (zst m7 k0 3 1) <| fun m8 =>
  ck (kd m8.1 == 12 && al m8.1 == 12) <|
  lt (znw m8) <| fun m9 =>
  ck (decide (k0 < m9.1) && (kd k0 == 11 && rsk 11 k0 4 == some m8.1)) <|
  lt (zst m9 k0 4 1) <| fun m10 =>
  ck (kd m10.1 == 12 && al m10.1 == 108) <|
  lt (znw m10) <| fun m11 =>
  ck (decide (k0 < m11.1) && (kd k0 == 11 && rsk 11 k0 5 == some m10.1)) <|
  lt (zst m11 k0 5 1) <| fun m12 =>
  ck (kd m12.1 == 12 && al m12.1 == 12) <|
  lt (znw m12) <| fun m13 =>
  ck (decide (k0 < m13.1) && (kd k0 == 11 && rsk 11 k0 6 == some m12.1)) <|
  lt (zst m13 k0 6 1) <| fun m14 =>
  ck (kd m14.1 == 12 && al m14.1 == 12) <|
  lt (znw m14) <| fun m15 =>
  ck (decide (k0 < m15.1) && (kd k0 == 11 && rsk 11 k0 7 == some m14.1)) <|
  lt (zst m15 k0 7 1) <| fun m16 =>
  ck (kd m16.1 == 12 && al m16.1 == 4096) <|
  lt (znw m16) <| fun m17 =>
  ck (decide (k0 < m17.1) && (kd k0 == 11 && rsk 11 k0 9 == some m16.1)) <|
  lt (zst m17 k0 9 1) <| fun m18 =>
  ck (kd m18.1 == 12 && al m18.1 == 4096) <|
  lt (znw m18) <| fun m19 =>
  ck (decide (k0 < m19.1) && (kd k0 == 11 && rsk 11 k0 10 == some m18.1)) <|
  lt (zst m19 k0 10 1) <| fun m20 =>
  ck (kd m20.1 == 12 && al m20.1 == 200) <|
  lt (znw m20) <| fun m21 =>
  ck (decide (k0 < m21.1) && (kd k0 == 11 && rsk 11 k0 12 == some m20.1)) <|
  lt (zst m21 k0 12 1) <| fun m22 =>
  ck (kd m22.1 == 12 && al m22.1 == 64) <|
  lt (znw m22) <| fun m23 =>
  ck (decide (k0 < m23.1) && (kd k0 == 11 && rsk 11 k0 14 == some m22.1)) <|
  lt (zst m23 k0 14 1) <| fun m24 =>
  ck (kd m24.1 == 12 && al m24.1 == 73) <|
  lt (znw m24) <| fun m25 =>
  ck (decide (k0 < m25.1) && (kd k0 == 11 && rsk 11 k0 16 == some m24.1)) <|
  lt (zst m25 k0 16 1) <| fun m26 =>
  ck (kd m26.1 == 12 && al m26.1 == 1168) <|
  lt (znw m26) <| fun m27 =>
  ck (decide (k0 < m27.1) && (kd k0 == 11 && rsk 11 k0 17 == some m26.1)) <|
  lt (zst m27 k0 17 1) <| fun m28 =>
  ck (kd m28.1 == 12 && al m28.1 == 73) <|
  lt (znw m28) <| fun m29 =>
  ck (decide (k0 < m29.1) && (kd k0 == 11 && rsk 11 k0 19 == some m28.1)) <|
  lt (zst m29 k0 19 1) <| fun m30 =>
  ck (kd m30.1 == 12 && al m30.1 == 12) <|
  lt (znw m30) <| fun m31 =>
  ck (decide (k0 < m31.1) && (kd k0 == 11 && rsk 11 k0 20 == some m30.1)) <|
  lt (zst m31 k0 20 1) <| fun m32 =>
  ck (kd m32.1 == 12 && al m32.1 == 36) <|
  lt (znw m32) <| fun m33 =>
  ck (decide (k0 < m33.1) && (kd k0 == 11 && rsk 11 k0 21 == some m32.1)) <|
  lt (zst m33 k0 21 1) <| fun m34 =>
  ck (kd m34.1 == 12 && al m34.1 == 144) <|
  lt (znw m34) <| fun m35 =>
  ck (decide (k0 < m35.1) && (kd k0 == 11 && rsk 11 k0 22 == some m34.1)) <|
  lt (zst m35 k0 22 1) <| fun m36 =>
  ck (kd m36.1 == 12 && al m36.1 == 12) <|
  lt (znw m36) <| fun m37 =>
  ck (decide (k0 < m37.1) && (kd k0 == 11 && rsk 11 k0 23 == some m36.1)) <|
  lt (zst m37 k0 23 1) <| fun m38 =>
  ck (kd m38.1 == 12 && al m38.1 == 108) <|
  lt (znw m38) <| fun m39 =>
  ck (decide (k0 < m39.1) && (kd k0 == 11 && rsk 11 k0 24 == some m38.1)) <|
  lt (zst m39 k0 24 1) <| fun m40 =>
  ck (kd m40.1 == 12 && al m40.1 == 32) <|
  lt (znw m40) <| fun m41 =>
  ck (decide (k0 < m41.1) && (kd k0 == 11 && rsk 11 k0 34 == some m40.1)) <|
  lt (zst m41 k0 34 1) <| fun m42 =>
  ck (kd m42.1 == 12 && al m42.1 == 4) <|
  lt (znw m42) <| fun m43 =>
  ck (decide (k0 < m43.1) && (kd k0 == 11 && rsk 11 k0 35 == some m42.1)) <|
  lt (zst m43 k0 35 1) <| fun m44 =>
  ck (decide (k0 < m44.1) && kd k0 == 11) <|
  lt (zst m44 k0 8 (0 : Int32)) <| fun m45 =>
  some ((), m45)

def zL_pre (t0 : Sz) : Option (Unit × Sz) :=
  ck (kd t0.1 == 10) <|
  lt (znw t0) <| fun t1 =>
  zcl (zX10_init t0.1 t1) <| fun _ t2 =>
  ck (kd t2.1 == 11) <|
  lt (znw t2) <| fun t3 =>
  zcl (zX11_init t2.1 t3) <| fun _ t4 =>
  ck (t0.1 == 0 && t2.1 == 362) <|
  some ((), t4)

def zf (s : Sz) : St := (s.1, zmem s.2)
def zm (o : Option (Unit × Sz)) : Option (Unit × St) := match o with
  | some (_, s) => some ((), zf s)
  | none => none
theorem z_nw (s : Sz) : nw (zf s) = zf (znw s) := rfl
theorem z_st (s : Sz) (k j : Nat) (v : Int32) : stI (zf s) k j v = zf (zst s k j v) := rfl
theorem z_ck2 {b b' : Bool} {X : Option (Unit × St)} {Y : Option (Unit × Sz)} (hb : b = b') (h : X = zm Y) : ck b X = zm (ck b' Y) := by
  subst hb
  cases b
  · rfl
  · exact h
theorem z_ck {b : Bool} {X : Option (Unit × St)} {Y : Option (Unit × Sz)} (h : X = zm Y) : ck b X = zm (ck b Y) := by
  cases b
  · rfl
  · exact h
theorem z_nwl {s : Sz} {F : St → Option (Unit × St)} {G : Sz → Option (Unit × Sz)} (h : ∀ m, F (zf m) = zm (G m)) : lt (nw (zf s)) F = zm (lt (znw s) G) := h (znw s)
theorem z_stl {s : Sz} {k j : Nat} {v : Int32} {F : St → Option (Unit × St)} {G : Sz → Option (Unit × Sz)} (h : ∀ m, F (zf m) = zm (G m)) : lt (stI (zf s) k j v) F = zm (lt (zst s k j v) G) := h (zst s k j v)
theorem z_cl {X : Option (Unit × St)} {Y : Option (Unit × Sz)} {F : Unit → St → Option (Unit × St)} {G : Unit → Sz → Option (Unit × Sz)} (h : X = zm Y) (h2 : ∀ m, F () (zf m) = zm (G () m)) : clS X F = zm (zcl Y G) := by
  subst h
  cases Y with
  | none => rfl
  | some y => exact h2 y.2
theorem zh0 (k0 : Nat) (s : Sz) (a : Int32) : fX0_init k0 (zf s) a = zm (zX0_init k0 s a) := by
  unfold fX0_init zX0_init
  repeat (first | (with_reducible refine z_nwl (fun _ => ?_)) | (with_reducible refine z_stl (fun _ => ?_)) | ((with_reducible (apply z_ck2)); rfl) | exact rfl)
theorem zh1 (k0 : Nat) (s : Sz) : fX1_init k0 (zf s) = zm (zX1_init k0 s) := by
  unfold fX1_init zX1_init
  repeat (first | (with_reducible refine z_nwl (fun _ => ?_)) | (with_reducible refine z_stl (fun _ => ?_)) | ((with_reducible (apply z_ck2)); rfl) | exact rfl)
theorem zh2 (k0 : Nat) (s : Sz) (a : Int32) : fX2_init k0 (zf s) a = zm (zX2_init k0 s a) := by
  unfold fX2_init zX2_init
  repeat (first | (with_reducible refine z_nwl (fun _ => ?_)) | (with_reducible refine z_stl (fun _ => ?_)) | ((with_reducible (apply z_ck2)); rfl) | exact rfl)
theorem zh3L (q : Nat) : ∀ n s x, fX3_init_L74 (fun (m21 : St) => some ((), m21)) q n (zf s) x = zm (zX3_init_L74 (fun (m21 : Sz) => some ((), m21)) q n s x)
  | 0, _, _ => rfl
  | n + 1, s, x => by
    have ih := zh3L q n
    show fX3_init_L74_b (fun (m21 : St) => some ((), m21)) q (fX3_init_L74 (fun (m21 : St) => some ((), m21)) q n) (zf s) x = zm (zX3_init_L74_b (fun (m21 : Sz) => some ((), m21)) q (zX3_init_L74 (fun (m21 : Sz) => some ((), m21)) q n) s x)
    unfold fX3_init_L74_b zX3_init_L74_b
    by_cases c : x < (8 : Int32)
    · rw [if_pos c, if_pos c]
      refine z_ck (z_ck (z_nwl (fun m => ?_)))
      rw [lt_e, lt_e]
      by_cases d : x < (4 : Int32)
      · rw [if_pos d, if_pos d]
        exact z_cl (zh2 _ _ _) (fun m => z_ck (z_stl (fun m => ih _ _)))
      · rw [if_neg d, if_neg d]
        exact z_cl (zh2 _ _ _) (fun m => z_ck (z_stl (fun m => ih _ _)))
    · rw [if_neg c, if_neg c]
      rfl
theorem zh3 (k0 : Nat) (s : Sz) : fX3_init k0 (zf s) = zm (zX3_init k0 s) := by
  unfold fX3_init zX3_init
  repeat (first | (with_reducible refine z_nwl (fun _ => ?_)) | (with_reducible refine z_stl (fun _ => ?_)) | ((with_reducible (apply z_ck2)); rfl) | exact zh3L _ _ _ _ | exact rfl)
theorem zh4L (q : Nat) : ∀ n s x, fX4_init_L20 (fun (m8 : St) => some ((), m8)) q n (zf s) x = zm (zX4_init_L20 (fun (m8 : Sz) => some ((), m8)) q n s x)
  | 0, _, _ => rfl
  | n + 1, s, x => by
    have ih := zh4L q n
    show fX4_init_L20_b (fun (m8 : St) => some ((), m8)) q (fX4_init_L20 (fun (m8 : St) => some ((), m8)) q n) (zf s) x = zm (zX4_init_L20_b (fun (m8 : Sz) => some ((), m8)) q (zX4_init_L20 (fun (m8 : Sz) => some ((), m8)) q n) s x)
    unfold fX4_init_L20_b zX4_init_L20_b
    by_cases c : x < (12 : Int32)
    · rw [if_pos c, if_pos c]
      exact z_ck (z_ck (z_nwl (fun m => z_cl (zh3 _ _) (fun m => z_ck (z_stl (fun m => ih _ _))))))
    · rw [if_neg c, if_neg c]
      rfl
theorem zh4 (k0 : Nat) (s : Sz) : fX4_init k0 (zf s) = zm (zX4_init k0 s) := by
  unfold fX4_init zX4_init
  repeat (first | (with_reducible refine z_nwl (fun _ => ?_)) | (with_reducible refine z_stl (fun _ => ?_)) | ((with_reducible (apply z_ck2)); rfl) | exact zh4L _ _ _ _ | exact rfl)
theorem zh5 (k0 : Nat) (s : Sz) (a b c : Nat) : fX5_init k0 (zf s) a b c = zm (zX5_init k0 s a b c) := by
  unfold fX5_init zX5_init
  repeat (first | (with_reducible refine z_nwl (fun _ => ?_)) | (with_reducible refine z_stl (fun _ => ?_)) | ((with_reducible (apply z_ck2)); rfl) | exact rfl)
theorem zh6 (k0 : Nat) (s : Sz) (a : Nat) : fX6_init k0 (zf s) a = zm (zX6_init k0 s a) := by
  unfold fX6_init zX6_init
  repeat (first | (with_reducible refine z_nwl (fun _ => ?_)) | (with_reducible refine z_stl (fun _ => ?_)) | ((with_reducible (apply z_ck2)); rfl) | exact rfl)
theorem zh7 (k0 : Nat) (s : Sz) (a b : Nat) : fX7_init k0 (zf s) a b = zm (zX7_init k0 s a b) := by
  unfold fX7_init zX7_init
  repeat (first | (with_reducible refine z_nwl (fun _ => ?_)) | (with_reducible refine z_stl (fun _ => ?_)) | ((with_reducible (apply z_ck2)); rfl) | exact rfl)
theorem zh8 (k0 : Nat) (s : Sz) (a : Nat) : fX8_init k0 (zf s) a = zm (zX8_init k0 s a) := by
  unfold fX8_init zX8_init
  repeat (first | (with_reducible refine z_nwl (fun _ => ?_)) | (with_reducible refine z_stl (fun _ => ?_)) | ((with_reducible (apply z_ck2)); rfl) | exact rfl)
theorem zh9 (k0 : Nat) (s : Sz) (a b c : Nat) : fX9_init k0 (zf s) a b c = zm (zX9_init k0 s a b c) := by
  unfold fX9_init zX9_init
  repeat (first | (with_reducible refine z_nwl (fun _ => ?_)) | (with_reducible refine z_stl (fun _ => ?_)) | ((with_reducible (apply z_ck2)); rfl) | exact rfl)
theorem zh10L (q : Nat) : ∀ n s x, fX10_init_L174 (fun (m42 : St) => some ((), m42)) q n (zf s) x = zm (zX10_init_L174 (fun (m42 : Sz) => some ((), m42)) q n s x)
  | 0, _, _ => rfl
  | n + 1, s, x => by
    have ih := zh10L q n
    show fX10_init_L174_b (fun (m42 : St) => some ((), m42)) q (fX10_init_L174 (fun (m42 : St) => some ((), m42)) q n) (zf s) x = zm (zX10_init_L174_b (fun (m42 : Sz) => some ((), m42)) q (zX10_init_L174 (fun (m42 : Sz) => some ((), m42)) q n) s x)
    unfold fX10_init_L174_b zX10_init_L174_b
    by_cases c : x < (16 : Int32)
    · rw [if_pos c, if_pos c]
      exact z_ck (z_ck (z_nwl (fun m => z_cl (zh1 _ _) (fun m => z_ck (z_stl (fun m => ih _ _))))))
    · rw [if_neg c, if_neg c]
      rfl
theorem zh10 (k0 : Nat) (s : Sz) : fX10_init k0 (zf s) = zm (zX10_init k0 s) := by
  unfold fX10_init zX10_init
  repeat (first | (with_reducible refine z_nwl (fun _ => ?_)) | (with_reducible refine z_stl (fun _ => ?_)) | ((with_reducible (apply z_ck2)); rfl) | refine z_cl (zh0 _ _ _) (fun _ => ?_) | refine z_cl (zh1 _ _) (fun _ => ?_) | refine z_cl (zh4 _ _) (fun _ => ?_) | refine z_cl (zh6 _ _ _) (fun _ => ?_) | refine z_cl (zh8 _ _ _) (fun _ => ?_) | refine z_cl (zh7 _ _ _ _) (fun _ => ?_) | refine z_cl (zh5 _ _ _ _ _) (fun _ => ?_) | refine z_cl (zh9 _ _ _ _ _) (fun _ => ?_) | exact zh10L _ _ _ _ | exact rfl)
theorem zh11 (k0 : Nat) (s : Sz) : fX11_init k0 (zf s) = zm (zX11_init k0 s) := by
  unfold fX11_init zX11_init
  repeat (first | (with_reducible refine z_nwl (fun _ => ?_)) | (with_reducible refine z_stl (fun _ => ?_)) | ((with_reducible (apply z_ck2)); rfl) | exact rfl)
theorem zhpre (s : Sz) : fL_pre (zf s) = zm (zL_pre s) := by
  unfold fL_pre zL_pre
  repeat (first | (with_reducible refine z_nwl (fun _ => ?_)) | (with_reducible refine z_stl (fun _ => ?_)) | ((with_reducible (apply z_ck2)); rfl) | refine z_cl (zh10 _ _) (fun _ => ?_) | refine z_cl (zh11 _ _) (fun _ => ?_) | exact rfl)
