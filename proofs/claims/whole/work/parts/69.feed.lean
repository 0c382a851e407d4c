/-! ===== feed ===== -/
def byt (y : Int64) (i : Nat) : Nat := y.toBitVec.toNat / 2 ^ (8 * i) % 256
theorem um64 : ∀ i, i < 8 → ((((8 : Int32) * nI i).toInt64.toUInt64 &&& Int64.toUInt64 63).toBitVec % 64).toNat = 8 * i := by decide
theorem sm64 : ∀ i, i < 8 → ((((8 : Int32) * nI i).toInt64 &&& 63).toBitVec.smod 64).toNat = 8 * i := by decide
theorem byt_bt {y : Int64} {i : Nat} (b : Nat) : bt (nI (byt y i)) b = (decide (b < 8) && y.toBitVec.getLsbD (8 * i + b)) := by
  rw [bt_nI (by unfold byt; omega), byt, show (256 : Nat) = 2 ^ 8 from rfl, Nat.testBit_mod_two_pow, Nat.testBit_div_two_pow, Nat.add_comm b]
  rfl
theorem bt255 (b : Nat) : bt 255 b = decide (b < 8) := by
  rw [show (255 : Int32) = nI (2 ^ 8 - 1) from rfl, bt_nI (n := 2 ^ 8 - 1) (by decide), Nat.testBit_two_pow_sub_one]
theorem cbyte (y : Int64) {i : Nat} (hi : i < 8) : ((lushr y ((8 : Int32) * nI i)).toInt32 &&& 255) = nI (byt y i) := by
  apply bt_ext
  intro b hb
  rw [bt_and, bt255, byt_bt, Bool.and_comm]
  by_cases h : b < 8
  · simp only [h, decide_true, Bool.true_and]
    unfold bt lushr
    rw [Int64.toBitVec_toInt32, BitVec.getLsbD_setWidth]
    show (decide (b < 32) && (y.toBitVec >>> ((((8 : Int32) * nI i).toInt64.toUInt64 &&& Int64.toUInt64 63).toBitVec % 64)).getLsbD b) = _
    rw [BitVec.ushiftRight_eq', um64 i hi, BitVec.getLsbD_ushiftRight]
    simp [hb]
  · simp [h]
theorem rbyte (y : Int64) {i : Nat} (hi : i < 8) : ((y >>> (((8 : Int32) * nI i).toInt64 &&& 63)) &&& 255).toInt32 = nI (byt y i) := by
  apply bt_ext
  intro b hb
  rw [byt_bt]
  unfold bt
  rw [Int64.toBitVec_toInt32, BitVec.getLsbD_setWidth, Int64.toBitVec_and, BitVec.getLsbD_and]
  have h255 : (Int64.toBitVec 255).getLsbD b = decide (b < 8) := by
    show (BitVec.ofNat 64 255).getLsbD b = _
    rw [BitVec.getLsbD_ofNat, show (255 : Nat) = 2 ^ 8 - 1 from rfl, Nat.testBit_two_pow_sub_one]
    by_cases h : b < 8
    · have : b < 64 := by omega
      simp [h, this]
    · simp [h]
  rw [h255]
  show (decide (b < 32) && ((y.toBitVec.sshiftRight' ((((8 : Int32) * nI i).toInt64 &&& 63).toBitVec.smod 64)).getLsbD b && decide (b < 8))) = _
  rw [BitVec.getLsbD_sshiftRight', sm64 i hi]
  by_cases h : b < 8
  · have h1 : ¬ 64 ≤ b := by omega
    have h2 : 8 * i + b < 64 := by omega
    simp [h, hb, h1, h2]
  · simp [h]
