/-! ===== the core: one memory for all cells, their shapes, worlds ===== -/
/-! ===== the words stay ===== -/
def okW : Cond → Bool
  | .fieldLinkNest _ _ _ _ _ _ => true
  | .methodLinkNest _ _ _ _ => true
  | w => goodWord w
def TB : List Cond := lw_tbl.filter okW
theorem mTB {w : Cond} (h : w ∈ lw_tbl) (h2 : okW w = true) : w ∈ TB := List.mem_filter.mpr ⟨h, h2⟩
theorem okW_stay {w : Cond} (h : okW w = true) {args : Array Value} {s : State} (hb : w.before args s = true) : ∀ (a' : Array Value) (U : State), s.WarmedH U.vm → w.before a' U = true := by
  intro a' U hW
  by_cases hg : goodWord w = true
  · exact word_at hW (good_of_word hg) hb
  · cases w <;> first
      | exact va_Nw.use rfl (va_Nw.warmF hW (va_Nw.of rfl hb))
      | exact va_Nw.use rfl (va_Nw.warmM hW (va_Nw.of rfl hb))
      | exact absurd h hg
theorem tbl_stay {args : Array Value} {s : State} (ht : ∀ w ∈ TB, w.before args s = true) {w : Cond} (hw : w ∈ TB) : ∀ (a' : Array Value) (U : State), s.WarmedH U.vm → w.before a' U = true :=
  okW_stay (List.mem_filter.mp hw).2 (ht w hw)
abbrev Xt : Type := (Nat → Nat) × va_G × (Nat → ClassId) × (Nat → Nat) × Nat × Nat
abbrev Kt : Type := Program × Launch × Env × State × MethodId × Array Value × List Frame × Method × Code
abbrev kp (K : Kt) : Program := K.1
abbrev kl (K : Kt) : Launch := K.2.1
abbrev ke (K : Kt) : Env := K.2.2.1
abbrev ks (K : Kt) : State := K.2.2.2.1
abbrev km (K : Kt) : MethodId := K.2.2.2.2.1
abbrev ka (K : Kt) : Array Value := K.2.2.2.2.2.1
abbrev kb (K : Kt) : List Frame := K.2.2.2.2.2.2.1
abbrev kme (K : Kt) : Method := K.2.2.2.2.2.2.2.1
abbrev kc (K : Kt) : Code := K.2.2.2.2.2.2.2.2
abbrev xad (X : Xt) : Nat → Nat := X.1
abbrev xD (X : Xt) : va_G := X.2.1
abbrev xac (X : Xt) : Nat → ClassId := X.2.2.1
abbrev xsa (X : Xt) : Nat → Nat := X.2.2.2.1
abbrev xn (X : Xt) : Nat := X.2.2.2.2.1
abbrev xB (X : Xt) : Nat := X.2.2.2.2.2
abbrev xA (X : Xt) : Nat → Prop := fun q => xB X ≤ q
abbrev vwCl : List vw_C := [(RX0, TX0, 2), (RX1, TX1, 4), (RX2, TX2, 4), (RX3, TX3, 11), (RX4, TX4, 2), (RX5, TX5, 5), (RX6, TX6, 8), (RX7, TX7, 4), (RX8, TX8, 11), (RX9, TX9, 9), (RX10, TX10, 15), (RX11, TX11, 38)]
def fvs (X : Xt) (k : Nat) (f : Nat → Int32) (j : Nat) : Value := match rs k j with
  | some i => .ref (xad X i)
  | none => .int (f j)
def cel (X : Xt) (k : Nat) (f : Nat → Int32) : va_E :=
  if kd k < 12 then .inr (kd k, (List.range (nfo (kd k))).map (fvs X k f))
  else .inl (xac X (kd k - 12), al k, if kd k = 12 then .inl f else .inr (.inr (.inr (.inr (fun j => (rs k j).map (xad X))))))
def World (X : Xt) (σ : Mem) (H : Heap) : Prop := ∀ k, k < xn X → va_at (xD X) vwCl (xad X k, cel X k (σ k)) H
def Xok (X : Xt) : Prop := 385 ≤ xn X ∧ (∀ k, k < xn X → xB X ≤ xad X k) ∧ (∀ i j, i < xn X → j < xn X → xad X i = xad X j → i = j)
abbrev tyX (X : Xt) : List (ClassId × FieldType) := [(xac X 0, .int), (xac X 1, .object RX3), (xac X 2, .object RX2), (xac X 3, .object RX1)]
/-- the six static arrays -/
def sC (j : Nat) : String := if j < 3 then RX10 else RX11
def sN (j : Nat) : String := match j with
  | 0 => "KIND_ABOVE"
  | 1 => "KIND_SIGNS"
  | 2 => "POWERS_OF_3"
  | 3 => "SIGNS"
  | 4 => "KINDS"
  | _ => "UNDER"
def sD (j : Nat) : String := if j = 1 then "[C" else "[I"
def sT (j : Nat) : FieldType := if j = 1 then .char else .int
def Sta (X : Xt) (U : State) : Prop := ∀ j, j < 6 → va_Z (sC j) (sN j) (sD j) (.ref (xsa X j)) (xA X) U U.heap ∧ va_T (sT j) (xsa X j) (sL j) (fun i => .int (sV j i)) (xA X) U U.heap
def Wd (X : Xt) (σ : Mem) (U : State) : Prop := World X σ U.heap ∧ va_K (xD X) vwCl (tyX X) U ∧ Xok X ∧ Sta X U
def Cx (K : Kt) (X : Xt) (cc : ByteArray) (nL : Nat) (own : String) (ret : Option FieldType) : Prop :=
  (kp K).tables.exec = Jvm.exec ∧ (kc K).code = cc ∧ (kc K).maxLocals = nL ∧ (ks K).vm.findClass own = some (km K).cls ∧ (∀ w ∈ TB, w.before (ka K) (ks K) = true) ∧ va_K (xD X) vwCl (tyX X) (ks K) ∧ Xok X ∧ Sta X (ks K) ∧ (kme K).sig.returnType = ret ∧ (kme K).locks = false
def GE {R : Type} (K : Kt) (Rm : Room) (X : Xt) (cc : ByteArray) (nL : Nat) (own : String) (ret : Option FieldType) (fin : R → Mem → State → Prop) (cells slots pc : Nat) (ls : List (Nat × Value)) (st : List Value) (σ : Mem) (ex : Option (R × Mem)) : Prop :=
  Cx K X cc nL own ret → ∀ r σ', ex = some (r, σ') → ∀ (H : Heap) (locs : List Loc) (lsA : Array Slot), World X σ H → va_S (xA X) (ks K).heap H locs → lv_has lsA nL ls →
    W (kp K) (kl K) (ke K) Rm (ks K) (km K) (ka K) (kb K) (kme K) (kc K) H locs cells slots (fin r σ') (F0 (km K) pc lsA st)
def Qs {R : Type} (X : Xt) (ι : R → Option Value) (r : R) (σ' : Mem) : Array Value → State → Outcome → State → Prop := fun _ st o t => o = .returned (ι r) ∧ Wd X σ' t ∧ va_F (xA X) st t
def finM {R : Type} (K : Kt) (X : Xt) (ι : R → Option Value) (mc ms : Nat) (r : R) (σ' : Mem) : State → Prop := MQ (kb K) (Qs X ι r σ') (ka K) (ks K) mc ms (xA X)
def wsQ (y : MethodName) (cc : ByteArray) (nL : Nat) (ret : Option FieldType) : List Cond := Cond.code y cc nL ret :: TB
/-- a method's contract: if its function answers, the method answers so -/
def Ct {R : Type} (l : Launch) (y : MethodName) (cc : ByteArray) (nL : Nat) (ret : Option FieldType) (rm : Room) (ι : R → Option Value) (X : Xt) (av : List Value) (σ : Mem) (fe : Option (R × Mem)) : Prop :=
  ∀ r σ', fe = some (r, σ') → Met l y (wsQ y cc nL ret) rm (va_Pc av (Wd X σ)) (Qs X ι r σ') rm.cells rm.slots (xA X)
def ιI (r : Int32) : Option Value := some (.int r)
def ιL (r : Int64) : Option Value := some (.long r)
def ιV (_ : Unit) : Option Value := none
def ιR (X : Xt) (k : Nat) : Option Value := some (.ref (xad X k))
theorem inb_in {i : Int32} {n : Nat} (h : inb i n = true) : vp_in i n := by
  simp only [inb, Bool.and_eq_true, decide_eq_true_eq] at h
  intro z
  rcases z with z | z
  · exact absurd z (Int32.not_lt.mpr h.1)
  · omega
theorem isB_nar {v : Int32} (h : isB v = true) : narrow .boolean (.int v) = .int v := by
  simp only [isB, Bool.or_eq_true, beq_iff_eq] at h
  rcases h with rfl | rfl <;> rfl
