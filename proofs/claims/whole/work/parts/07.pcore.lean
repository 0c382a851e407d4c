/-! ===== the pure core: memory, shapes, the words of functions ===== -/
abbrev Mem : Type := Nat → Nat → Int32
def nfo (ci : Nat) : Nat := [2, 4, 4, 11, 2, 5, 8, 4, 11, 9, 15, 38].getD ci 0
/-- the kind of a cell: 0 to 11 the class of an object, 12 an array of ints, 13 of forms, 14 of fields, 15 of deeds -/
def kd (k : Nat) : Nat :=
  if k < 11 then [10, 0, 12, 1, 12, 12, 12, 15, 12, 4, 13].getD k 99
  else if k < 275 then (if (k - 11) % 22 = 0 then 3 else if (k - 11) % 22 = 1 then 14 else if (k - 11) % 22 < 6 then 12 else if (k - 11) % 2 = 0 then 2 else 12)
  else if k < 298 then [6, 12, 12, 12, 12, 12, 0, 12, 1, 12, 12, 12, 8, 12, 12, 12, 12, 12, 12, 7, 5, 9, 12].getD (k - 275) 99
  else if k < 362 then (if (k - 298) % 4 = 0 then 1 else 12)
  else if k = 362 then 11 else 12
/-- an array's length -/
def al (k : Nat) : Nat :=
  if k < 11 then [0, 0, 64, 0, 32, 8, 32, 16, 3, 0, 12].getD k 0
  else if k < 275 then (if (k - 11) % 22 < 3 then 8 else if (k - 11) % 22 < 6 then 3 else 8)
  else if k < 298 then [0, 4096, 12, 14, 12, 192, 0, 200, 0, 32, 8, 32, 0, 12, 12, 6, 729, 729, 729, 0, 0, 0, 4].getD (k - 275) 0
  else if k < 362 then (if (k - 298) % 4 = 2 then 8 else 32)
  else [0, 3, 12, 36, 144, 12, 108, 12, 12, 4096, 4096, 200, 64, 73, 1168, 73, 12, 36, 144, 12, 108, 32, 4, 12].getD (k - 362) 0
/-- which cell a slot refers to; none: it holds an int -/
def rsk (ci k j : Nat) : Option Nat :=
  match ci, j with
  | 0, 0 => some (k + 1)
  | 1, 0 => some (k + 1)
  | 1, 1 => some (k + 2)
  | 1, 2 => some (k + 3)
  | 2, 1 => some (k + 1)
  | 3, 4 => some (k + 1)
  | 3, 5 => some (k + 2)
  | 3, 7 => some (k + 3)
  | 3, 8 => some (k + 4)
  | 3, 9 => some (k + 5)
  | 4, 0 => some 10
  | 5, 0 => some 281
  | 5, 1 => some 9
  | 5, 2 => some 275
  | 6, 0 => some 9
  | 6, 1 => some 276
  | 6, 2 => some 277
  | 6, 4 => some 278
  | 6, 5 => some 279
  | 6, 6 => some 280
  | 7, 0 => some 281
  | 7, 1 => some 9
  | 8, 0 => some 9
  | 8, 1 => some 288
  | 8, 2 => some 289
  | 8, 7 => some 290
  | 8, 8 => some 291
  | 8, 9 => some 292
  | 8, 10 => some 293
  | 9, 0 => some 9
  | 9, 1 => some 275
  | 9, 2 => some 283
  | 9, 3 => some 297
  | 10, 0 => some 9
  | 10, 1 => some 275
  | 10, 2 => some 287
  | 10, 3 => some 281
  | 10, 4 => some 1
  | 10, 5 => some 294
  | 10, 6 => some 295
  | 10, 7 => some 283
  | 10, 8 => some 296
  | 10, 9 => some 3
  | 10, 11 => some 7
  | 10, 14 => some 8
  | 11, 0 => some 363
  | 11, 1 => some 364
  | 11, 2 => some 365
  | 11, 3 => some 366
  | 11, 4 => some 367
  | 11, 5 => some 368
  | 11, 6 => some 369
  | 11, 7 => some 370
  | 11, 9 => some 371
  | 11, 10 => some 372
  | 11, 12 => some 373
  | 11, 14 => some 374
  | 11, 16 => some 375
  | 11, 17 => some 376
  | 11, 19 => some 377
  | 11, 20 => some 378
  | 11, 21 => some 379
  | 11, 22 => some 380
  | 11, 23 => some 381
  | 11, 24 => some 382
  | 11, 34 => some 383
  | 11, 35 => some 384
  | 13, j => if j < 12 then some (11 + 22 * j) else none
  | 14, j => if j < 8 then some (k + 5 + 2 * j) else none
  | 15, j => if j < 16 then some (298 + 4 * j) else none
  | _, _ => none
def rs (k j : Nat) : Option Nat := rsk (kd k) k j
def sL (j : Nat) : Nat := if j = 3 then 8 else 7
def sV (j i : Nat) : Int32 := match j with
  | 0 => ([-1, 0, 0, 1, 2, 0, 3] : List Int32).getD i 0
  | 1 => ([112, 106, 108, 99, 115, 116, 103] : List Int32).getD i 0
  | 2 => ([1, 3, 9, 27, 81, 243, 729] : List Int32).getD i 0
  | 3 => ([119, 120, 121, 122, 87, 88, 89, 90] : List Int32).getD i 0
  | 4 => ([112, 106, 108, 99, 115, 116, 103] : List Int32).getD i 0
  | _ => ([-1, 0, 0, 1, 2, 0, 3] : List Int32).getD i 0
/-- the words of functions: a name for a value, a test that must hold, a call -/
def lt {α β : Type} (v : α) (f : α → β) : β := f v
def ck {α : Type} (b : Bool) (e : Option α) : Option α := match b with
  | true => e
  | false => none
def cl {α β : Type} (x : Option (α × Mem)) (f : α → Mem → Option β) : Option β := match x with
  | some (a, m) => f a m
  | none => none
def inb (i : Int32) (n : Nat) : Bool := decide (0 ≤ i) && decide (i.toNatClampNeg < n)
def isB (v : Int32) : Bool := v == 0 || v == 1
def sto (σ : Mem) (k j : Nat) (v : Int32) : Mem := fun a b => if a = k ∧ b = j then v else σ a b
abbrev ix (i : Int32) : Nat := i.toNatClampNeg
theorem ck_some {α : Type} {b : Bool} {e : Option α} {r : α} (h : ck b e = some r) : b = true ∧ e = some r := by
  cases b with
  | true => exact ⟨rfl, h⟩
  | false => cases h
theorem cl_some {α β : Type} {x : Option (α × Mem)} {f : α → Mem → Option β} {r : β} (h : cl x f = some r) : ∃ a m, x = some (a, m) ∧ f a m = some r := by
  cases x with
  | none => cases h
  | some q => exact ⟨q.1, q.2, rfl, h⟩
def iushr (x y : Int32) : Int32 := (x.toUInt32 >>> (y.toUInt32 &&& Int32.toUInt32 31)).toInt32
def lushr (x : Int64) (y : Int32) : Int64 := (x.toUInt64 >>> (y.toInt64.toUInt64 &&& Int64.toUInt64 63)).toInt64
def cpb (sp dp n : Int32) (n0 n1 : Nat) : Bool := decide (0 ≤ sp) && (decide (0 ≤ dp) && (decide (0 ≤ n) && (decide (ix sp + ix n ≤ n0) && decide (ix dp + ix n ≤ n1))))
def cpy (σ : Mem) (k0 k1 sp dp n : Nat) : Mem := fun a => if a = k1 then va_cpy (σ k0) (σ k1) sp dp n else σ a
def isO (ci k : Nat) : Bool := decide (k < 385) && kd k == ci
def imax (x y : Int32) : Int32 := if x < y then y else x
def iabs (x : Int32) : Int32 := if 0 ≤ x then x else 0 - x
def zer (σ : Mem) : Mem := fun k j => if k = 385 then 0 else σ k j
abbrev St : Type := Nat × Mem
def clS {α β : Type} (x : Option (α × St)) (f : α → St → Option β) : Option β := match x with
  | some (a, m) => f a m
  | none => none
def nw (τ : St) : St := (τ.1 + 1, fun k j => if k = τ.1 then 0 else τ.2 k j)
def stI (τ : St) (k j : Nat) (v : Int32) : St := (τ.1, sto τ.2 k j v)
