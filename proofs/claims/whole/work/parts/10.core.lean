/-! ===== the core: one memory for all cells, their shapes, worlds ===== -/
/-! ===== the words stay ===== -/
def okW : Cond → Bool
  | .fieldLinkNest _ _ _ _ _ _ => true
  | .methodLinkNest _ _ _ _ => true
  | w => goodWord w
def TB : List Cond := lw_tbl.filter okW
theorem mTB {w : Cond} (h : w ∈ lw_tbl) (h2 : okW w = true) : w ∈ TB := List.mem_filter.mpr ⟨h, h2⟩
theorem okW_stay {w : Cond} (h : okW w = true) {args : Array Value} {s : State} (hb : w.before args s = true) : ∀ (a' : Array Value) (U : State), s.WarmedH U.vm → w.before a' U = true := by
  intro a' U hW
  by_cases hg : goodWord w = true
  · exact word_at hW (good_of_word hg) hb
  · cases w <;> first
      | exact va_Nw.use rfl (va_Nw.warmF hW (va_Nw.of rfl hb))
      | exact va_Nw.use rfl (va_Nw.warmM hW (va_Nw.of rfl hb))
      | exact absurd h hg
theorem tbl_stay {args : Array Value} {s : State} (ht : ∀ w ∈ TB, w.before args s = true) {w : Cond} (hw : w ∈ TB) : ∀ (a' : Array Value) (U : State), s.WarmedH U.vm → w.before a' U = true :=
  okW_stay (List.mem_filter.mp hw).2 (ht w hw)
abbrev Mem : Type := Nat → Nat → Int32
abbrev Xt : Type := (Nat → Nat) × va_G × (Nat → ClassId) × (Nat → Nat) × Nat × Nat
abbrev Kt : Type := Program × Launch × Env × State × MethodId × Array Value × List Frame × Method × Code
abbrev kp (K : Kt) : Program := K.1
abbrev kl (K : Kt) : Launch := K.2.1
abbrev ke (K : Kt) : Env := K.2.2.1
abbrev ks (K : Kt) : State := K.2.2.2.1
abbrev km (K : Kt) : MethodId := K.2.2.2.2.1
abbrev ka (K : Kt) : Array Value := K.2.2.2.2.2.1
abbrev kb (K : Kt) : List Frame := K.2.2.2.2.2.2.1
abbrev kme (K : Kt) : Method := K.2.2.2.2.2.2.2.1
abbrev kc (K : Kt) : Code := K.2.2.2.2.2.2.2.2
abbrev xad (X : Xt) : Nat → Nat := X.1
abbrev xD (X : Xt) : va_G := X.2.1
abbrev xac (X : Xt) : Nat → ClassId := X.2.2.1
abbrev xsa (X : Xt) : Nat → Nat := X.2.2.2.1
abbrev xn (X : Xt) : Nat := X.2.2.2.2.1
abbrev xB (X : Xt) : Nat := X.2.2.2.2.2
abbrev xA (X : Xt) : Nat → Prop := fun q => xB X ≤ q
abbrev vwCl : List vw_C := [(RX0, TX0, 2), (RX1, TX1, 4), (RX2, TX2, 4), (RX3, TX3, 11), (RX4, TX4, 2), (RX5, TX5, 5), (RX6, TX6, 8), (RX7, TX7, 4), (RX8, TX8, 11), (RX9, TX9, 9), (RX10, TX10, 15), (RX11, TX11, 38)]
def nfo (ci : Nat) : Nat := [2, 4, 4, 11, 2, 5, 8, 4, 11, 9, 15, 38].getD ci 0
/-- the kind of a cell: 0 to 11 the class of an object, 12 an array of ints, 13 of forms, 14 of fields, 15 of deeds -/
def kd (k : Nat) : Nat :=
  if k < 11 then [10, 0, 12, 1, 12, 12, 12, 15, 12, 4, 13].getD k 99
  else if k < 275 then (if (k - 11) % 22 = 0 then 3 else if (k - 11) % 22 = 1 then 14 else if (k - 11) % 22 < 6 then 12 else if (k - 11) % 2 = 0 then 2 else 12)
  else if k < 298 then [6, 12, 12, 12, 12, 12, 0, 12, 1, 12, 12, 12, 8, 12, 12, 12, 12, 12, 12, 7, 5, 9, 12].getD (k - 275) 99
  else if k < 362 then (if (k - 298) % 4 = 0 then 1 else 12)
  else if k = 362 then 11 else 12
/-- an array's length -/
def al (k : Nat) : Nat :=
  if k < 11 then [0, 0, 64, 0, 32, 8, 32, 16, 3, 0, 12].getD k 0
  else if k < 275 then (if (k - 11) % 22 < 3 then 8 else if (k - 11) % 22 < 6 then 3 else 8)
  else if k < 298 then [0, 4096, 12, 14, 12, 192, 0, 200, 0, 32, 8, 32, 0, 12, 12, 6, 729, 729, 729, 0, 0, 0, 4].getD (k - 275) 0
  else if k < 362 then (if (k - 298) % 4 = 2 then 8 else 32)
  else [0, 3, 12, 36, 144, 12, 108, 12, 12, 4096, 4096, 200, 64, 73, 1168, 73, 12, 36, 144, 12, 108, 32, 4, 12].getD (k - 362) 0
/-- which cell a slot refers to; none: it holds an int -/
def rsk (ci k j : Nat) : Option Nat :=
  match ci, j with
  | 0, 0 => some (k + 1)
  | 1, 0 => some (k + 1)
  | 1, 1 => some (k + 2)
  | 1, 2 => some (k + 3)
  | 2, 1 => some (k + 1)
  | 3, 4 => some (k + 1)
  | 3, 5 => some (k + 2)
  | 3, 7 => some (k + 3)
  | 3, 8 => some (k + 4)
  | 3, 9 => some (k + 5)
  | 4, 0 => some 10
  | 5, 0 => some 281
  | 5, 1 => some 9
  | 5, 2 => some 275
  | 6, 0 => some 9
  | 6, 1 => some 276
  | 6, 2 => some 277
  | 6, 4 => some 278
  | 6, 5 => some 279
  | 6, 6 => some 280
  | 7, 0 => some 281
  | 7, 1 => some 9
  | 8, 0 => some 9
  | 8, 1 => some 288
  | 8, 2 => some 289
  | 8, 7 => some 290
  | 8, 8 => some 291
  | 8, 9 => some 292
  | 8, 10 => some 293
  | 9, 0 => some 9
  | 9, 1 => some 275
  | 9, 2 => some 283
  | 9, 3 => some 297
  | 10, 0 => some 9
  | 10, 1 => some 275
  | 10, 2 => some 287
  | 10, 3 => some 281
  | 10, 4 => some 1
  | 10, 5 => some 294
  | 10, 6 => some 295
  | 10, 7 => some 283
  | 10, 8 => some 296
  | 10, 9 => some 3
  | 10, 11 => some 7
  | 10, 14 => some 8
  | 11, 0 => some 363
  | 11, 1 => some 364
  | 11, 2 => some 365
  | 11, 3 => some 366
  | 11, 4 => some 367
  | 11, 5 => some 368
  | 11, 6 => some 369
  | 11, 7 => some 370
  | 11, 9 => some 371
  | 11, 10 => some 372
  | 11, 12 => some 373
  | 11, 14 => some 374
  | 11, 16 => some 375
  | 11, 17 => some 376
  | 11, 19 => some 377
  | 11, 20 => some 378
  | 11, 21 => some 379
  | 11, 22 => some 380
  | 11, 23 => some 381
  | 11, 24 => some 382
  | 11, 34 => some 383
  | 11, 35 => some 384
  | 13, j => if j < 12 then some (11 + 22 * j) else none
  | 14, j => if j < 8 then some (k + 5 + 2 * j) else none
  | 15, j => if j < 16 then some (298 + 4 * j) else none
  | _, _ => none
def rs (k j : Nat) : Option Nat := rsk (kd k) k j
def fvs (X : Xt) (k : Nat) (f : Nat → Int32) (j : Nat) : Value := match rs k j with
  | some i => .ref (xad X i)
  | none => .int (f j)
def cel (X : Xt) (k : Nat) (f : Nat → Int32) : va_E :=
  if kd k < 12 then .inr (kd k, (List.range (nfo (kd k))).map (fvs X k f))
  else .inl (xac X (kd k - 12), al k, if kd k = 12 then .inl f else .inr (.inr (.inr (.inr (fun j => (rs k j).map (xad X))))))
def World (X : Xt) (σ : Mem) (H : Heap) : Prop := ∀ k, k < xn X → va_at (xD X) vwCl (xad X k, cel X k (σ k)) H
def Xok (X : Xt) : Prop := 385 ≤ xn X ∧ (∀ k, k < xn X → xB X ≤ xad X k) ∧ (∀ i j, i < xn X → j < xn X → xad X i = xad X j → i = j)
abbrev tyX (X : Xt) : List (ClassId × FieldType) := [(xac X 0, .int), (xac X 1, .object RX3), (xac X 2, .object RX2), (xac X 3, .object RX1)]
/-- the six static arrays -/
def sC (j : Nat) : String := if j < 3 then RX10 else RX11
def sN (j : Nat) : String := match j with
  | 0 => "KIND_ABOVE"
  | 1 => "KIND_SIGNS"
  | 2 => "POWERS_OF_3"
  | 3 => "SIGNS"
  | 4 => "KINDS"
  | _ => "UNDER"
def sD (j : Nat) : String := if j = 1 then "[C" else "[I"
def sT (j : Nat) : FieldType := if j = 1 then .char else .int
def sL (j : Nat) : Nat := if j = 3 then 8 else 7
def sV (j i : Nat) : Int32 := match j with
  | 0 => ([-1, 0, 0, 1, 2, 0, 3] : List Int32).getD i 0
  | 1 => ([112, 106, 108, 99, 115, 116, 103] : List Int32).getD i 0
  | 2 => ([1, 3, 9, 27, 81, 243, 729] : List Int32).getD i 0
  | 3 => ([119, 120, 121, 122, 87, 88, 89, 90] : List Int32).getD i 0
  | 4 => ([112, 106, 108, 99, 115, 116, 103] : List Int32).getD i 0
  | _ => ([-1, 0, 0, 1, 2, 0, 3] : List Int32).getD i 0
def Sta (X : Xt) (U : State) : Prop := ∀ j, j < 6 → va_Z (sC j) (sN j) (sD j) (.ref (xsa X j)) (xA X) U U.heap ∧ va_T (sT j) (xsa X j) (sL j) (fun i => .int (sV j i)) (xA X) U U.heap
def Wd (X : Xt) (σ : Mem) (U : State) : Prop := World X σ U.heap ∧ va_K (xD X) vwCl (tyX X) U ∧ Xok X ∧ Sta X U
def Cx (K : Kt) (X : Xt) (cc : ByteArray) (nL : Nat) (own : String) (ret : Option FieldType) : Prop :=
  (kp K).tables.exec = Jvm.exec ∧ (kc K).code = cc ∧ (kc K).maxLocals = nL ∧ (ks K).vm.findClass own = some (km K).cls ∧ (∀ w ∈ TB, w.before (ka K) (ks K) = true) ∧ va_K (xD X) vwCl (tyX X) (ks K) ∧ Xok X ∧ Sta X (ks K) ∧ (kme K).sig.returnType = ret ∧ (kme K).locks = false
def GE {R : Type} (K : Kt) (Rm : Room) (X : Xt) (cc : ByteArray) (nL : Nat) (own : String) (ret : Option FieldType) (fin : R → Mem → State → Prop) (cells slots pc : Nat) (ls : List (Nat × Value)) (st : List Value) (σ : Mem) (ex : Option (R × Mem)) : Prop :=
  Cx K X cc nL own ret → ∀ r σ', ex = some (r, σ') → ∀ (H : Heap) (locs : List Loc) (lsA : Array Slot), World X σ H → va_S (xA X) (ks K).heap H locs → lv_has lsA nL ls →
    W (kp K) (kl K) (ke K) Rm (ks K) (km K) (ka K) (kb K) (kme K) (kc K) H locs cells slots (fin r σ') (F0 (km K) pc lsA st)
def Qs {R : Type} (X : Xt) (ι : R → Option Value) (r : R) (σ' : Mem) : Array Value → State → Outcome → State → Prop := fun _ st o t => o = .returned (ι r) ∧ Wd X σ' t ∧ va_F (xA X) st t
def finM {R : Type} (K : Kt) (X : Xt) (ι : R → Option Value) (mc ms : Nat) (r : R) (σ' : Mem) : State → Prop := MQ (kb K) (Qs X ι r σ') (ka K) (ks K) mc ms (xA X)
def wsQ (y : MethodName) (cc : ByteArray) (nL : Nat) (ret : Option FieldType) : List Cond := Cond.code y cc nL ret :: TB
/-- a method's contract: if its function answers, the method answers so -/
def Ct {R : Type} (l : Launch) (y : MethodName) (cc : ByteArray) (nL : Nat) (ret : Option FieldType) (rm : Room) (ι : R → Option Value) (X : Xt) (av : List Value) (σ : Mem) (fe : Option (R × Mem)) : Prop :=
  ∀ r σ', fe = some (r, σ') → Met l y (wsQ y cc nL ret) rm (va_Pc av (Wd X σ)) (Qs X ι r σ') rm.cells rm.slots (xA X)
/-- the words of functions: a name for a value, a test that must hold, a call -/
def lt {α β : Type} (v : α) (f : α → β) : β := f v
def ck {α : Type} (b : Bool) (e : Option α) : Option α := match b with
  | true => e
  | false => none
def cl {α β : Type} (x : Option (α × Mem)) (f : α → Mem → Option β) : Option β := match x with
  | some (a, m) => f a m
  | none => none
def inb (i : Int32) (n : Nat) : Bool := decide (0 ≤ i) && decide (i.toNatClampNeg < n)
def isB (v : Int32) : Bool := v == 0 || v == 1
def sto (σ : Mem) (k j : Nat) (v : Int32) : Mem := fun a b => if a = k ∧ b = j then v else σ a b
abbrev ix (i : Int32) : Nat := i.toNatClampNeg
def ιI (r : Int32) : Option Value := some (.int r)
def ιL (r : Int64) : Option Value := some (.long r)
def ιV (_ : Unit) : Option Value := none
def ιR (X : Xt) (k : Nat) : Option Value := some (.ref (xad X k))
theorem ck_some {α : Type} {b : Bool} {e : Option α} {r : α} (h : ck b e = some r) : b = true ∧ e = some r := by
  cases b with
  | true => exact ⟨rfl, h⟩
  | false => cases h
theorem cl_some {α β : Type} {x : Option (α × Mem)} {f : α → Mem → Option β} {r : β} (h : cl x f = some r) : ∃ a m, x = some (a, m) ∧ f a m = some r := by
  cases x with
  | none => cases h
  | some q => exact ⟨q.1, q.2, rfl, h⟩
theorem inb_in {i : Int32} {n : Nat} (h : inb i n = true) : vp_in i n := by
  simp only [inb, Bool.and_eq_true, decide_eq_true_eq] at h
  intro z
  rcases z with z | z
  · exact absurd z (Int32.not_lt.mpr h.1)
  · omega
theorem isB_nar {v : Int32} (h : isB v = true) : narrow .boolean (.int v) = .int v := by
  simp only [isB, Bool.or_eq_true, beq_iff_eq] at h
  rcases h with rfl | rfl <;> rfl
