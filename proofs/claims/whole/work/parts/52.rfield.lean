/-! ===== the reference's fields ===== -/
def sgn (l : Nat) : Nat := [119, 120, 121, 122, 87, 88, 89, 90].getD l 0
theorem sV3 : ∀ l, l < 8 → sV 3 l = nI (sgn l) := by decide
theorem sgn_lt : ∀ l, l < 8 → sgn l < 256 ∧ 0 < sgn l := by decide
/-- which bits of a pattern bear a letter -/
def fp (pt : Nat → Nat) (l : Nat) : Nat → Bool := fun b => pt b == sgn l
def RPat (σ : Mem) (i : Nat) (pt : Nat → Nat) : Prop := i < 12 ∧ ∀ b, b < 12 → σ 366 (12 * i + 11 - b) = nI (pt b) ∧ pt b < 256
theorem signAt_ok {σ : Mem} {i b : Nat} {pt : Nat → Nat} (h : RPat σ i pt) (hb : b < 12) : fX11_signAt σ (nI i) (nI b) = some (nI (pt b), σ) := by
  obtain ⟨hi, hp⟩ := h
  have e : (12 : Int32) * nI i + 11 - nI b = nI (12 * i + 11 - b) := by
    have a : (12 : Int32) = nI 12 := rfl
    have c : (11 : Int32) = nI 11 := rfl
    rw [a, c, pk_mul, nI_add, pk_sub (by omega)]
  unfold fX11_signAt
  rw [e, ck_t (inb_nI (by omega) (by decide)), ix_nI (by omega), (hp b hb).1]
theorem sign_eq {pt : Nat → Nat} {b l : Nat} (hp : pt b < 256) (hl : l < 8) : (nI (pt b) = sV 3 l) ↔ fp pt l b = true := by
  rw [sV3 l hl, nI_eq (by omega) (by have := sgn_lt l hl; omega)]
  simp [fp]
theorem bitsOf_loop {σ : Mem} {i l : Nat} {pt : Nat → Nat} (h : RPat σ i pt) (hl : l < 8) (kk : Mem → Int32 → Option (Int32 × Mem)) :
    ∀ (n j : Nat), j ≤ 12 → 12 - j < n → fX11_bitsOf_L5 kk (nI i) (nI l) n σ (mkS (fp pt l) j) (nI j) = kk σ (mkS (fp pt l) 12) := by
  intro n
  induction n with
  | zero => intro j hj hn; omega
  | succ n ih =>
    intro j hj hn
    show fX11_bitsOf_L5_b kk (nI i) (nI l) (fX11_bitsOf_L5 kk (nI i) (nI l) n) σ _ (nI j) = _
    unfold fX11_bitsOf_L5_b
    by_cases e : j < 12
    · rw [if_pos (show nI j < 12 from nI_lt (b := 12) e (by decide)), signAt_ok h e, cl_s, ck_t (inb_nI hl (by decide)), ix_nI (by omega)]
      simp only [lt_e, nI_1]
      have hs := sign_eq (l := l) (h.2 j e).2 hl
      by_cases hp : fp pt l j = true
      · rw [if_pos (hs.mpr hp)]
        have := ih (j + 1) (by omega) (by omega)
        rw [mkS, if_pos hp] at this
        exact this
      · rw [if_neg (fun z => hp (hs.mp z))]
        have := ih (j + 1) (by omega) (by omega)
        rw [mkS, if_neg hp] at this
        exact this
    · have : j = 12 := by omega
      subst this
      rw [if_neg (by decide)]
theorem bitsOf_ok {σ : Mem} {i l : Nat} {pt : Nat → Nat} (h : RPat σ i pt) (hl : l < 8) : fX11_bitsOf σ (nI i) (nI l) = some (mkS (fp pt l) 12, σ) := by
  unfold fX11_bitsOf
  exact bitsOf_loop h hl (fun m8 x9 => some (x9, m8)) 5000 0 (by omega) (by omega)
theorem size_loop {σ : Mem} (x : Int32) (kk : Int32 → Option (Int32 × Mem)) :
    ∀ (n j : Nat), j ≤ 32 → 32 - j < n → fX11_size_L4 kk σ x n (nI (cnt (bt x) j)) (nI j) = kk (nI (cnt (bt x) 32)) := by
  intro n
  induction n with
  | zero => intro j hj hn; omega
  | succ n ih =>
    intro j hj hn
    show fX11_size_L4_b kk σ x (fX11_size_L4 kk σ x n) _ (nI j) = _
    unfold fX11_size_L4_b
    by_cases e : j < 32
    · rw [if_pos (show nI j < 32 from nI_lt (b := 32) e (by decide)), lt_e, ushr1 e, nI_1]
      have e2 : nI (cnt (bt x) j) + (if bt x j then 1 else 0) = nI (cnt (bt x) (j + 1)) := by
        rw [cnt, ← nI_add, nI_if]
      rw [e2]
      exact ih (j + 1) (by omega) (by omega)
    · have : j = 32 := by omega
      subst this
      rw [if_neg (by decide)]
theorem size_ok (σ : Mem) (x : Int32) : fX11_size σ x = some (nI (cnt (bt x) 32), σ) := by
  unfold fX11_size
  exact size_loop x (fun x6 => some (x6, σ)) 5000 0 (by omega) (by omega)
theorem cnt_congr {p q : Nat → Bool} {n : Nat} (h : ∀ i, i < n → p i = q i) : cnt p n = cnt q n := by
  induction n with
  | zero => rfl
  | succ k ih => rw [cnt, cnt, ih (fun i hi => h i (by omega)), h k (by omega)]
theorem cnt_mkS (p : Nat → Bool) {n : Nat} (hn : n ≤ 32) : cnt (bt (mkS p n)) 32 = cnt p n := by
  have h : ∀ d, n + d ≤ 32 → cnt (bt (mkS p n)) (n + d) = cnt p n := by
    intro d
    induction d with
    | zero => intro _; exact cnt_congr (fun i hi => by rw [bt_mkS _ hn]; simp; omega)
    | succ d ih =>
      intro hd
      rw [show n + (d + 1) = n + d + 1 from rfl, cnt, ih (by omega), bt_mkS _ hn]
      have : ¬ n + d < n := by omega
      simp [this]
  have := h (32 - n) (by omega)
  rwa [show n + (32 - n) = 32 by omega] at this
theorem m1_nI {n : Nat} : nI (n + 1) - 1 = nI n := nI_pred n
theorem stands_loop {σ : Mem} {i l : Nat} {pt : Nat → Nat} (h : RPat σ i pt) (hl : l < 8) (w : Int32) (kk : Mem → Int32 → Int32 → Option (Int32 × Mem)) :
    ∀ (j n : Nat) (v c : Nat), j ≤ 12 → j < n → fX11_stands_L10 kk (nI i) (nI l) w n σ (nI v) (nI c) (nI j - 1) = kk σ (nI (valN w (dsc (fp pt l) j) v)) (nI (c + cnt (fp pt l) j)) := by
  intro j
  induction j with
  | zero =>
    intro n v c _ hn
    cases n with
    | zero => omega
    | succ n =>
      show fX11_stands_L10_b kk (nI i) (nI l) w (fX11_stands_L10 kk (nI i) (nI l) w n) σ (nI v) (nI c) (nI 0 - 1) = _
      unfold fX11_stands_L10_b
      rw [if_pos (by decide)]
      simp [dsc, valN, cnt]
  | succ j ih =>
    intro n v c hj hn
    cases n with
    | zero => omega
    | succ n =>
      show fX11_stands_L10_b kk (nI i) (nI l) w (fX11_stands_L10 kk (nI i) (nI l) w n) σ (nI v) (nI c) (nI (j + 1) - 1) = _
      unfold fX11_stands_L10_b
      rw [m1_nI, if_neg (nI_pos (by omega)), signAt_ok h (by omega), cl_s, ck_t (inb_nI hl (by decide)), ix_nI (by omega)]
      simp only [lt_e]
      have e1 : nI j + (-1 : Int32) = nI j - 1 := (Int32.sub_eq_add_neg _ _).symm
      rw [e1]
      have hs := sign_eq (l := l) (h.2 j (by omega)).2 hl
      by_cases hp : fp pt l j = true
      · rw [if_pos (hs.mpr hp), shr1 (by omega)]
        have e2 : (2 : Int32) * nI v + (if bt w j then 1 else 0) = nI (2 * v + (if bt w j then 1 else 0)) := by
          have a : (2 : Int32) = nI 2 := rfl
          rw [a, pk_mul, ← nI_add, nI_if]
        rw [e2, nI_1, ih n _ _ (by omega) (by omega), dsc, if_pos hp, valN, cnt, if_pos hp]
        rw [show c + 1 + cnt (fp pt l) j = c + (cnt (fp pt l) j + 1) by omega]
      · rw [if_neg (fun z => hp (hs.mp z)), ih n _ _ (by omega) (by omega), dsc, if_neg hp, cnt, if_neg hp, Nat.add_zero]
theorem stands_ok {σ : Mem} {i l : Nat} {pt : Nat → Nat} (h : RPat σ i pt) (hl : l < 8) (hc : 0 < cnt (fp pt l) 12) (hc8 : cnt (fp pt l) 12 ≤ 8) (w : Int32) : fX11_stands σ (nI i) (nI l) w = some (numP (dsc (fp pt l) 12) (decide (3 < l)) w, σ) := by
  unfold fX11_stands
  have e11 : (11 : Int32) = nI 12 - 1 := by decide
  have hL := fun kk => stands_loop h hl w kk 12 5000 0 0 (by omega) (by omega)
  rw [e11]
  rw [show (0 : Int32) = nI 0 from rfl, hL]
  rw [Nat.zero_add]
  have hlen := dsc_len (fp pt l) 12
  by_cases h3 : 3 < l
  · rw [if_pos (show 3 < nI l from nI_lt (a := 3) h3 (by omega))]
    simp only [numP, h3, decide_true, Bool.true_and]
    cases hd : dsc (fp pt l) 12 with
    | nil => rw [hd] at hlen; simp at hlen; omega
    | cons b pl =>
      rw [hd, List.length_cons] at hlen
      have e1 : nI (cnt (fp pt l) 12) - 1 = nI pl.length := by rw [← hlen, m1_nI]
      rw [e1, shl1 _ (by omega), shl1 _ (by omega), ← hlen]
      have hv : valN w (b :: pl) 0 = (if bt w b then 1 else 0) * 2 ^ pl.length + valN w pl 0 := by
        rw [valN, valN_split]; simp
      have hlt := valN_lt w pl
      have h28 : (2 : Nat) ^ pl.length ≤ 2 ^ 8 := Nat.pow_le_pow_right (by decide) (by omega)
      rw [List.headD_cons]
      cases hb : bt w b
      · rw [hb] at hv
        simp only [Bool.false_eq_true, if_false, Nat.zero_mul, Nat.zero_add] at hv
        rw [hv, if_pos (nI_lt hlt (by omega))]
        simp
      · rw [hb] at hv
        simp only [if_true, Nat.one_mul] at hv
        rw [if_neg (by rw [hv]; exact nI_nlt (by omega) (by omega))]
        simp
  · rw [if_neg (show ¬ 3 < nI l from nI_nlt (a := 3) (by omega) (by omega))]
    simp [numP, h3]
theorem isIn_ok (σ : Mem) (a b c : Int64) : fX11_isIn σ a b c = some (if b.toInt ≤ a.toInt ∧ a.toInt ≤ c.toInt then 1 else 0, σ) := by
  unfold fX11_isIn
  simp only [lg_cmp_lt, lg_cmp_gt, Int64.lt_iff_toInt_lt]
  by_cases h1 : a.toInt < b.toInt
  · have : ¬ (b.toInt ≤ a.toInt ∧ a.toInt ≤ c.toInt) := by omega
    rw [if_pos h1, if_neg this]
  · rw [if_neg h1]
    by_cases h2 : c.toInt < a.toInt
    · have : ¬ (b.toInt ≤ a.toInt ∧ a.toInt ≤ c.toInt) := by omega
      rw [if_pos h2, if_neg this]
    · have : b.toInt ≤ a.toInt ∧ a.toInt ≤ c.toInt := by omega
      rw [if_neg h2, if_pos this]
theorem can_r : ∀ n, n < 9 → 0 < n → (-((1 : Int32) <<< ((nI n - 1) &&& 31))).toInt = -(2 ^ (n - 1) : Int) ∧ (((1 : Int32) <<< ((nI n - 1) &&& 31)) - 1).toInt = (2 ^ (n - 1) : Int) - 1 ∧ (((1 : Int32) <<< (nI n &&& 31)) - 1).toInt = (2 ^ n : Int) - 1 := by decide
theorem canStand_ok {σ : Mem} {i l : Nat} {pt : Nat → Nat} (h : RPat σ i pt) (hl : l < 8) (hc : 0 < cnt (fp pt l) 12) (hc8 : cnt (fp pt l) 12 ≤ 8) (v : Int32) : fX11_canStand σ (nI i) (nI l) v = some (if canP (cnt (fp pt l) 12) (decide (3 < l)) v then 1 else 0, σ) := by
  unfold fX11_canStand
  rw [bitsOf_ok h hl, cl_s, size_ok, cl_s, cnt_mkS _ (by decide)]
  obtain ⟨c1, c2, c3⟩ := can_r (cnt (fp pt l) 12) (by omega) hc
  simp only [isIn_ok, cl_s, Int32.toInt_toInt64, c1, c2, c3]
  by_cases h3 : 3 < l
  · rw [if_pos (show 3 < nI l from nI_lt (a := 3) h3 (by omega))]
    simp only [canP, h3, decide_true, if_true]
    generalize (2 ^ (cnt (fp pt l) 12 - 1) : Int) = P
    by_cases a : -P ≤ v.toInt ∧ v.toInt ≤ P - 1
    · have b : v.toInt < P := by omega
      simp [a.1, b, a, isB, ck]
    · rw [if_neg a]
      have : (decide (-P ≤ v.toInt) && decide (v.toInt < P)) = false := by
        cases h : (decide (-P ≤ v.toInt) && decide (v.toInt < P)) with
        | false => rfl
        | true => simp at h; omega
      simp [this, isB, ck]
  · rw [if_neg (show ¬ 3 < nI l from nI_nlt (a := 3) (by omega) (by omega))]
    simp only [canP, h3, decide_false, Bool.false_eq_true, if_false]
    have z : (0 : Int64).toInt = 0 := rfl
    rw [z]
    generalize (2 ^ (cnt (fp pt l) 12) : Int) = P
    by_cases a : 0 ≤ v.toInt ∧ v.toInt ≤ P - 1
    · have b : v.toInt < P := by omega
      simp [a.1, b, a, isB, ck]
    · rw [if_neg a]
      have : (decide (0 ≤ v.toInt) && decide (v.toInt < P)) = false := by
        cases h : (decide (0 ≤ v.toInt) && decide (v.toInt < P)) with
        | false => rfl
        | true => simp at h; omega
      simp [this, isB, ck]
