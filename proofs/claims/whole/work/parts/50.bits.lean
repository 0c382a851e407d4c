/-! ===== bits of an Int32 ===== -/
def bt (x : Int32) (i : Nat) : Bool := x.toBitVec.getLsbD i
theorem bt_ext {x y : Int32} (h : ∀ i, i < 32 → bt x i = bt y i) : x = y :=
  Int32.toBitVec_inj.1 (BitVec.eq_of_getLsbD_eq (fun i hi => h i hi))
theorem bt_big {x : Int32} {i : Nat} (h : 32 ≤ i) : bt x i = false := BitVec.getLsbD_of_ge _ _ h
theorem bt_and (x y : Int32) (i : Nat) : bt (x &&& y) i = (bt x i && bt y i) := by simp [bt]
theorem bt_or (x y : Int32) (i : Nat) : bt (x ||| y) i = (bt x i || bt y i) := by simp [bt]
theorem bt_xor (x y : Int32) (i : Nat) : bt (x ^^^ y) i = (bt x i ^^ bt y i) := by simp [bt]
theorem bt_neg1 (i : Nat) : bt (-1) i = decide (i < 32) := by
  show BitVec.getLsbD (-1 : Int32).toBitVec i = _
  rw [show (-1 : Int32).toBitVec = BitVec.allOnes 32 from rfl]
  exact BitVec.getLsbD_allOnes
theorem bt_not (x : Int32) (i : Nat) : bt (x ^^^ (-1)) i = (decide (i < 32) && !bt x i) := by
  rw [bt_xor, bt_neg1]
  by_cases h : i < 32
  · simp [h]
  · rw [bt_big (by omega)]; simp [h]
theorem bt_0 (i : Nat) : bt 0 i = false := by simp [bt]
theorem bt_nI {n : Nat} (h : n < 2 ^ 32) (i : Nat) : bt (nI n) i = n.testBit i := by
  show (BitVec.ofNat 32 n).getLsbD i = _
  rw [BitVec.getLsbD_ofNat]
  by_cases hi : i < 32
  · simp [hi]
  · have : n.testBit i = false := Nat.testBit_lt_two_pow (Nat.lt_of_lt_of_le h (Nat.pow_le_pow_right (by decide) (by omega)))
    simp [hi, this]
theorem sm32 : ∀ k, k < 32 → ((nI k &&& 31).toBitVec.smod 32).toNat = k := by decide
theorem um32 : ∀ k, k < 32 → (((nI k).toUInt32 &&& Int32.toUInt32 31).toBitVec % 32).toNat = k := by decide
theorem bt_shl {k : Nat} (hk : k < 32) (x : Int32) (i : Nat) : bt (x <<< (nI k &&& 31)) i = (decide (i < 32) && (!decide (i < k) && bt x (i - k))) := by
  show BitVec.getLsbD (x.toBitVec <<< ((nI k &&& 31).toBitVec.smod 32)) i = _
  rw [BitVec.getLsbD_shiftLeft', sm32 k hk]
  simp [bt, Bool.and_assoc]
theorem bt_shr {k : Nat} (hk : k < 32) (x : Int32) {i : Nat} (hi : i + k < 32) : bt (x >>> (nI k &&& 31)) i = bt x (i + k) := by
  show BitVec.getLsbD (x.toBitVec.sshiftRight' ((nI k &&& 31).toBitVec.smod 32)) i = _
  rw [BitVec.getLsbD_sshiftRight', sm32 k hk]
  have h1 : k + i < 32 := by omega
  have h2 : ¬ 32 ≤ i := by omega
  simp [bt, h1, h2, Nat.add_comm]
theorem bt_ushr {k : Nat} (hk : k < 32) (x : Int32) (i : Nat) : bt (iushr x (nI k)) i = bt x (i + k) := by
  show BitVec.getLsbD (x.toBitVec >>> (((nI k).toUInt32 &&& Int32.toUInt32 31).toBitVec % 32).toNat) i = _
  rw [um32 k hk]
  simp [bt, Nat.add_comm]
theorem bt_1 (i : Nat) : bt 1 i = decide (i = 0) := by
  show (BitVec.ofNat 32 1).getLsbD i = _
  rw [BitVec.getLsbD_ofNat]
  cases i with
  | zero => rfl
  | succ i => simp [Nat.testBit_succ]
theorem and1 (x : Int32) : x &&& 1 = if bt x 0 then 1 else 0 := by
  apply bt_ext
  intro i hi
  rw [bt_and, bt_1]
  by_cases h : i = 0
  · subst h
    cases bt x 0 <;> simp [bt_1, bt_0]
  · cases bt x 0 <;> simp [bt_1, bt_0, h]
theorem shr1 {k : Nat} (hk : k < 32) (x : Int32) : x >>> (nI k &&& 31) &&& 1 = if bt x k then 1 else 0 := by
  rw [and1, bt_shr hk x (by omega), Nat.zero_add]
theorem ushr1 {k : Nat} (hk : k < 32) (x : Int32) : iushr x (nI k) &&& 1 = if bt x k then 1 else 0 := by
  rw [and1, bt_ushr hk x, Nat.zero_add]
theorem bt_one {k : Nat} (hk : k < 32) (i : Nat) : bt (1 <<< (nI k &&& 31)) i = decide (i = k) := by
  rw [bt_shl hk, bt_1]
  by_cases h : i = k
  · subst h; simp [hk]
  · by_cases h2 : i < k
    · simp [h2, h]
    · have : ¬ i - k = 0 := by omega
      simp [h, this]
/-- the set of those below n of which p is true -/
def mkS (p : Nat → Bool) : Nat → Int32
  | 0 => 0
  | k + 1 => mkS p k ||| (if p k then 1 <<< (nI k &&& 31) else 0)
theorem bt_mkS (p : Nat → Bool) {n : Nat} (hn : n ≤ 32) (i : Nat) : bt (mkS p n) i = (decide (i < n) && p i) := by
  induction n with
  | zero => simp [mkS, bt_0]
  | succ k ih =>
    rw [mkS, bt_or, ih (by omega)]
    by_cases hp : p k
    · rw [if_pos hp, bt_one (by omega)]
      by_cases h : i = k
      · subst h; simp [hp]
      · have e : decide (i < k + 1) = decide (i < k) := by simp; omega
        rw [e]; simp [h]
    · rw [if_neg hp, bt_0]
      by_cases h : i = k
      · subst h; simp [hp]
      · have e : decide (i < k + 1) = decide (i < k) := by simp; omega
        rw [e]; simp
theorem mkS_congr {p q : Nat → Bool} {n : Nat} (h : ∀ i, i < n → p i = q i) : mkS p n = mkS q n := by
  induction n with
  | zero => rfl
  | succ k ih => rw [mkS, mkS, ih (fun i hi => h i (by omega)), h k (by omega)]
/-- a set below n is what its bits say -/
theorem mkS_bt {x : Int32} {n : Nat} (hn : n ≤ 32) (h : ∀ i, n ≤ i → bt x i = false) : mkS (bt x) n = x := by
  apply bt_ext
  intro i hi
  rw [bt_mkS _ hn]
  by_cases e : i < n
  · simp [e]
  · simp [e, h i (by omega)]
/-! ===== words of functions ===== -/
theorem ck_t {α : Type} {b : Bool} {e : Option α} (h : b = true) : ck b e = e := by rw [h]; rfl
theorem cl_s {α β : Type} {a : α} {m : Mem} {f : α → Mem → Option β} : cl (some (a, m)) f = f a m := rfl
theorem cl_e {α β : Type} {x : Option (α × Mem)} {a : α} {m : Mem} {f : α → Mem → Option β} (h : x = some (a, m)) : cl x f = f a m := by rw [h]; rfl
theorem lt_e {α β : Type} (v : α) (f : α → β) : lt v f = f v := rfl
theorem ix_nI {n : Nat} (h : n < 2 ^ 31) : ix (nI n) = n := nI_clamp h
theorem inb_nI {n N : Nat} (h : n < N) (hN : N < 2 ^ 31) : inb (nI n) N = true := by
  simp only [inb, Bool.and_eq_true, decide_eq_true_eq]
  exact ⟨nI_pos' (by omega), by rw [nI_clamp (by omega)]; exact h⟩
theorem sto_k {σ : Mem} {k j k' j' : Nat} {v : Int32} : sto σ k j v k' j' = if k' = k ∧ j' = j then v else σ k' j' := rfl
