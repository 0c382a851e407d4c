/-! ===== a field: its places, highest first ===== -/
/-- what stands in places of a word: from v0 on -/
def foldV (w : Int32) : List Nat → Int32 → Int32
  | [], v => v
  | b :: pl, v => foldV w pl (2 * v + (if bt w b then 1 else 0))
def valN (w : Int32) : List Nat → Nat → Nat
  | [], v => v
  | b :: pl, v => valN w pl (2 * v + (if bt w b then 1 else 0))
theorem foldV_nI (w : Int32) : ∀ (pl : List Nat) (v : Nat), foldV w pl (nI v) = nI (valN w pl v)
  | [], v => rfl
  | b :: pl, v => by
    have h : (2 : Int32) * nI v + (if bt w b then 1 else 0) = nI (2 * v + (if bt w b then 1 else 0)) := by
      have e : (2 : Int32) = nI 2 := rfl
      rw [e, pk_mul]
      cases bt w b
      · show nI (2 * v) + nI 0 = _
        rw [nI_add]; rfl
      · show nI (2 * v) + nI 1 = _
        rw [nI_add]; rfl
    rw [foldV, valN, h]
    exact foldV_nI w pl _
theorem valN_split (w : Int32) : ∀ (pl : List Nat) (v : Nat), valN w pl v = v * 2 ^ pl.length + valN w pl 0
  | [], v => by simp [valN]
  | b :: pl, v => by
    rw [valN, valN_split w pl, valN, valN_split w pl (2 * 0 + _), List.length_cons, Nat.pow_succ]
    generalize (2 ^ pl.length) = P
    generalize (if bt w b then 1 else 0) = c
    rw [Nat.add_mul, Nat.add_mul]
    have : 2 * v * P = v * (P * 2) := by rw [Nat.mul_comm 2 v, Nat.mul_assoc, Nat.mul_comm 2 P]
    omega
theorem valN_lt (w : Int32) : ∀ (pl : List Nat), valN w pl 0 < 2 ^ pl.length
  | [] => by simp [valN]
  | b :: pl => by
    rw [valN, valN_split, List.length_cons, Nat.pow_succ]
    have := valN_lt w pl
    cases bt w b <;> simp <;> omega
theorem nI_if (c : Bool) : nI (if c then 1 else 0) = if c then 1 else 0 := by cases c <;> rfl
theorem foldV_lin (w : Int32) : ∀ (pl : List Nat) (v : Int32), foldV w pl v = v * nI (2 ^ pl.length) + nI (valN w pl 0)
  | [], v => by
    show v = v * nI 1 + nI 0
    have e1 : nI 1 = (1 : Int32) := rfl
    have e0 : nI 0 = (0 : Int32) := rfl
    rw [e1, e0, Int32.mul_one, Int32.add_zero]
  | b :: pl, v => by
    rw [foldV, foldV_lin w pl, valN, valN_split w pl (2 * 0 + _), List.length_cons, Nat.pow_succ, ← pk_mul, ← nI_add, ← pk_mul, Nat.mul_zero, Nat.zero_add, nI_if]
    have e2 : nI 2 = (2 : Int32) := rfl
    rw [e2]
    generalize nI (2 ^ pl.length) = P
    generalize (if bt w b then (1 : Int32) else 0) = c
    generalize nI (valN w pl 0) = q
    grind
/-- what stands in a field of places pl -/
def numP (pl : List Nat) (sg : Bool) (w : Int32) : Int32 :=
  if sg && bt w (pl.headD 0) then nI (valN w pl 0) - nI (2 ^ pl.length) else nI (valN w pl 0)
/-- the places below n of which p is true, highest first; how many -/
def dsc (p : Nat → Bool) : Nat → List Nat
  | 0 => []
  | n + 1 => if p n then n :: dsc p n else dsc p n
def cnt (p : Nat → Bool) : Nat → Nat
  | 0 => 0
  | n + 1 => cnt p n + (if p n then 1 else 0)
theorem dsc_len (p : Nat → Bool) : ∀ n, (dsc p n).length = cnt p n
  | 0 => rfl
  | n + 1 => by
    rw [dsc, cnt]
    cases h : p n <;> simp [dsc_len p n]
theorem dsc_mem (p : Nat → Bool) : ∀ n b, b ∈ dsc p n ↔ b < n ∧ p b = true
  | 0, b => by simp [dsc]
  | n + 1, b => by
    rw [dsc]
    cases h : p n
    · simp only [Bool.false_eq_true, if_false]
      rw [dsc_mem p n b]
      constructor
      · intro ⟨a, c⟩; exact ⟨by omega, c⟩
      · intro ⟨a, c⟩
        refine ⟨?_, c⟩
        rcases Nat.lt_or_ge b n with q | q
        · exact q
        · have : b = n := by omega
          subst this; rw [h] at c; cases c
    · simp only [if_true, List.mem_cons]
      rw [dsc_mem p n b]
      constructor
      · rintro (rfl | ⟨a, c⟩)
        · exact ⟨by omega, h⟩
        · exact ⟨by omega, c⟩
      · intro ⟨a, c⟩
        rcases Nat.lt_or_ge b n with q | q
        · exact Or.inr ⟨q, c⟩
        · exact Or.inl (by omega)
/-- at its i-th place: how many stand below it -/
theorem dsc_rank (p : Nat → Bool) : ∀ n i (h : i < (dsc p n).length), cnt p (dsc p n)[i] + i + 1 = cnt p n
  | 0, i, h => by simp [dsc] at h
  | n + 1, i, h => by
    have hl := dsc_len p n
    cases hp : p n
    · have e : dsc p (n + 1) = dsc p n := by rw [dsc, hp]; rfl
      have h' : i < (dsc p n).length := by rw [e] at h; exact h
      have := dsc_rank p n i h'
      simp only [e, cnt, hp]
      simpa using this
    · have e : dsc p (n + 1) = n :: dsc p n := by rw [dsc, hp]; rfl
      simp only [e, cnt, hp, if_true]
      cases i with
      | zero => simp
      | succ i =>
        have h' : i < (dsc p n).length := by rw [e] at h; simpa using h
        have := dsc_rank p n i h'
        simp only [List.getElem_cons_succ]
        omega
theorem cnt_mono (p : Nat → Bool) {a b : Nat} (h : a ≤ b) : cnt p a ≤ cnt p b := by
  induction b with
  | zero => have : a = 0 := by omega
            subst this; exact Nat.le_refl _
  | succ b ih =>
    rcases Nat.lt_or_ge a (b + 1) with q | q
    · exact Nat.le_trans (ih (by omega)) (by rw [cnt]; omega)
    · have : a = b + 1 := by omega
      subst this; exact Nat.le_refl _
theorem cnt_lt (p : Nat → Bool) {a b : Nat} (h : a < b) (hp : p a = true) : cnt p a < cnt p b := by
  have := cnt_mono p (show a + 1 ≤ b from h)
  rw [cnt, hp] at this
  simp at this
  omega
/-- two places with as many below them are one -/
theorem cnt_inj (p : Nat → Bool) {a b : Nat} (ha : p a = true) (hb : p b = true) (h : cnt p a = cnt p b) : a = b := by
  rcases Nat.lt_trichotomy a b with q | q | q
  · have := cnt_lt p q ha; omega
  · exact q
  · have := cnt_lt p q hb; omega
def CField (σ : Mem) (k : Nat) (p : Nat → Bool) (sg : Bool) : Prop :=
  σ k 0 = (if sg then 1 else 0) ∧ σ k 2 = nI (cnt p 12) ∧ σ k 3 = mkS p 12 ∧ (∀ i (h : i < (dsc p 12).length), σ (k + 1) i = nI (dsc p 12)[i]) ∧ cnt p 12 ≤ 8
theorem numberIn_loop {σ : Mem} {k : Nat} {pl : List Nat} (h2 : σ k 2 = nI pl.length) (h1 : ∀ i (h : i < pl.length), σ (k + 1) i = nI pl[i]) (hl : pl.length ≤ 8) (hb : ∀ b ∈ pl, b < 12) (w : Int32) (kk : Int32 → Option (Int32 × Mem)) :
    ∀ (n i : Nat) (acc : Int32), i ≤ pl.length → pl.length - i < n → fX2_numberIn_L32 kk σ k w n acc (nI i) = kk (foldV w (pl.drop i) acc) := by
  intro n
  induction n with
  | zero => intro i acc hi hn; omega
  | succ n ih =>
    intro i acc hi hn
    show fX2_numberIn_L32_b kk σ k w (fX2_numberIn_L32 kk σ k w n) acc (nI i) = _
    unfold fX2_numberIn_L32_b
    rw [h2]
    by_cases e : i < pl.length
    · rw [if_pos (nI_lt e (by omega)), ck_t (inb_nI (by omega) (by decide)), lt_e, ix_nI (by omega), h1 i e, shr1 (by have := hb _ (List.getElem_mem e); omega), nI_1, ih (i + 1) _ (by omega) (by omega), List.drop_eq_getElem_cons e, foldV]
    · rw [if_neg (nI_nlt (by omega) (by omega))]
      have : i = pl.length := by omega
      subst this
      simp [foldV]
theorem CField.parts {σ : Mem} {k : Nat} {p : Nat → Bool} {sg : Bool} (hF : CField σ k p sg) : ∃ pl, pl = dsc p 12 ∧ σ k 0 = (if sg then 1 else 0) ∧ σ k 2 = nI pl.length ∧ (∀ i (h : i < pl.length), σ (k + 1) i = nI pl[i]) ∧ pl.length ≤ 8 ∧ ∀ b ∈ pl, b < 12 := by
  obtain ⟨h0, h2, h3, h1, hl⟩ := hF
  exact ⟨_, rfl, h0, by rw [dsc_len]; exact h2, h1, by rw [dsc_len]; exact hl, fun b hb => ((dsc_mem p 12 b).mp hb).1⟩
theorem numberIn_ok {σ : Mem} {k : Nat} {p : Nat → Bool} {sg : Bool} (hF : CField σ k p sg) (hne : 0 < cnt p 12) (w : Int32) : fX2_numberIn k σ w = some (numP (dsc p 12) sg w, σ) := by
  obtain ⟨pl, hpl, h0, h2, h1, hl, hb⟩ := hF.parts
  rw [← hpl]
  rw [← dsc_len, ← hpl] at hne
  clear hpl
  have hL := numberIn_loop h2 h1 hl hb w (fun x8 => some (x8, σ)) 5000 0
  have hz : nI 0 = (0 : Int32) := rfl
  rw [hz] at hL
  unfold fX2_numberIn
  simp only [lt_e]
  rw [h0, h2]
  have key : ∀ acc, fX2_numberIn_L32 (fun x8 => some (x8, σ)) σ k w 5000 acc 0 = some (foldV w pl acc, σ) := fun acc => by
    rw [hL acc (by omega) (by omega)]; rfl
  simp only [key]
  cases sg with
  | false =>
    simp only [Bool.false_eq_true, if_false, if_true]
    have := foldV_nI w pl 0
    rw [hz] at this
    rw [this]; rfl
  | true =>
    rw [if_neg (by decide)]
    cases pl with
    | nil => simp at hne
    | cons b pl =>
      rw [if_pos (by rw [List.length_cons]; exact nI_lt (show 0 < pl.length + 1 by omega) (by simp at hl; omega)), ck_t (by decide)]
      have hix : ix (0 : Int32) = 0 := rfl
      rw [hix, h1 0 (by simp), List.getElem_cons_zero, shr1 (by have := hb b (by simp); omega)]
      rw [foldV_lin, numP]
      show some ((-(if bt w b then 1 else 0)) * nI (2 ^ (b :: pl).length) + nI (valN w (b :: pl) 0), σ) = some ((if (true && bt w b) = true then _ else _), σ)
      cases hbt : bt w b
      · simp
      · simp only [Bool.true_and, if_true]
        generalize nI (2 ^ (b :: pl).length) = P
        generalize nI (valN w (b :: pl) 0) = q
        have : -1 * P + q = q - P := by grind
        rw [this]
/-- numbers that can stand in a field of n bits -/
def canP (n : Nat) (sg : Bool) (v : Int32) : Bool := if sg then decide (-(2 ^ (n - 1) : Int) ≤ v.toInt) && decide (v.toInt < (2 ^ (n - 1) : Int)) else decide (0 ≤ v.toInt) && decide (v.toInt < (2 ^ n : Int))
theorem shl1 : ∀ n, n < 31 → (1 : Int32) <<< (nI n &&& 31) = nI (2 ^ n) := by decide
theorem can_c : ∀ n, n < 9 → 0 < n → ((0 : Int32) + nI (2 ^ n)).toInt = (2 ^ n : Int) ∧ (-nI (2 ^ n) / 2).toInt = -(2 ^ (n - 1) : Int) ∧ (-nI (2 ^ n) / 2 + nI (2 ^ n)).toInt = (2 ^ (n - 1) : Int) := by decide
theorem canHold_ok {σ : Mem} {k : Nat} {p : Nat → Bool} {sg : Bool} (hF : CField σ k p sg) (hpos : 0 < cnt p 12) (v : Int32) : fX2_canHold k σ v = some (if canP (cnt p 12) sg v then 1 else 0, σ) := by
  obtain ⟨h0, h2, h3, h1, hl⟩ := hF
  unfold fX2_canHold
  simp only [lt_e]
  rw [h0, h2, shl1 _ (by omega)]
  obtain ⟨c1, c2, c3⟩ := can_c (cnt p 12) (by omega) hpos
  cases sg with
  | false =>
    simp only [Bool.false_eq_true, if_false, if_true, canP, Int32.lt_iff_toInt_lt, c1]
    have z : (0 : Int32).toInt = 0 := rfl
    rw [z]
    generalize (2 ^ cnt p 12 : Int) = P
    by_cases a : v.toInt < 0
    · have : ¬ 0 ≤ v.toInt := by omega
      simp [a, this]
    · have : 0 ≤ v.toInt := by omega
      by_cases b : v.toInt < P <;> simp [a, b, this]
  | true =>
    rw [if_neg (by decide)]
    simp only [if_true, canP, Int32.lt_iff_toInt_lt, c2, c3]
    generalize (2 ^ (cnt p 12 - 1) : Int) = P
    by_cases a : v.toInt < -P
    · have : ¬ -P ≤ v.toInt := by omega
      simp [a, this]
    · have : -P ≤ v.toInt := by omega
      by_cases b : v.toInt < P <;> simp [a, b, this]

/-- a word with a number laid into a field -/
def laP (p : Nat → Bool) (w v : Int32) : Int32 := mkS (fun b => if p b then bt v (cnt p b) else bt w b) 12
theorem putInto_loop {σ : Mem} {k : Nat} {p : Nat → Bool} {sg : Bool} (hF : CField σ k p sg) (v : Int32) (q : Nat → Bool) (kk : Int32 → Option (Int32 × Mem)) :
    ∀ (n i : Nat) (x : Int32), i ≤ cnt p 12 → cnt p 12 - i < n → (∀ b, bt x b = if b < 12 ∧ p b = true then decide (cnt p 12 ≤ cnt p b + i) && bt v (cnt p b) else q b) →
      ∃ y, fX2_putInto_L12 kk σ k v n x (nI i) = kk y ∧ ∀ b, bt y b = if b < 12 ∧ p b = true then bt v (cnt p b) else q b := by
  obtain ⟨h0, h2, h3, h1, hl⟩ := hF
  intro n
  induction n with
  | zero => intro i x hi hn; omega
  | succ n ih =>
    intro i x hi hn hx
    show ∃ y, fX2_putInto_L12_b kk σ k v (fX2_putInto_L12 kk σ k v n) x (nI i) = kk y ∧ _
    unfold fX2_putInto_L12_b
    rw [h2]
    by_cases e : i < cnt p 12
    · have hi' : i < (dsc p 12).length := by rw [dsc_len]; exact e
      have hr := dsc_rank p 12 i hi'
      have hm := (dsc_mem p 12 _).mp (List.getElem_mem hi')
      have e1 : nI (cnt p 12) - 1 - nI i = nI (cnt p 12 - 1 - i) := by
        have : (1 : Int32) = nI 1 := rfl
        rw [this, pk_sub (by omega), pk_sub (by omega)]
      rw [if_pos (nI_lt e (by omega)), ck_t (inb_nI (by omega) (by decide)), lt_e, ix_nI (by omega), h1 i hi', e1, shr1 (by omega), nI_1]
      refine ih (i + 1) _ (by omega) (by omega) (fun b => ?_)
      rw [bt_or, hx b]
      generalize (dsc p 12)[i] = d at *
      have hs : bt ((if bt v (cnt p 12 - 1 - i) then (1 : Int32) else 0) <<< (nI d &&& 31)) b = (bt v (cnt p 12 - 1 - i) && decide (b = d)) := by
        cases bt v (cnt p 12 - 1 - i)
        · simp only [Bool.false_eq_true, if_false, Bool.false_and]
          rw [bt_shl (by omega), bt_0]; simp
        · simp only [if_true, Bool.true_and]
          exact bt_one (by omega) b
      rw [hs]
      by_cases hb : b < 12 ∧ p b = true
      · rw [if_pos hb, if_pos hb]
        by_cases hd : b = d
        · subst hd
          have a1 : ¬ (cnt p 12 ≤ cnt p b + i) := by omega
          have a2 : cnt p 12 ≤ cnt p b + (i + 1) := by omega
          have a3 : cnt p 12 - 1 - i = cnt p b := by omega
          simp [a1, a2, a3]
        · have : ¬ cnt p b = cnt p d := fun z => hd (cnt_inj p hb.2 hm.2 z)
          have a1 : (cnt p 12 ≤ cnt p b + i) ↔ (cnt p 12 ≤ cnt p b + (i + 1)) := by omega
          simp [hd, a1]
      · rw [if_neg hb, if_neg hb]
        have hd : ¬ b = d := fun z => hb (by rw [z]; exact hm)
        simp [hd]
    · rw [if_neg (nI_nlt (by omega) (by omega))]
      refine ⟨x, rfl, fun b => ?_⟩
      rw [hx b]
      by_cases hb : b < 12 ∧ p b = true
      · have : cnt p 12 ≤ cnt p b + i := by omega
        simp [hb, this]
      · simp [hb]
theorem putInto_ok {σ : Mem} {k : Nat} {p : Nat → Bool} {sg : Bool} (hF : CField σ k p sg) (w v : Int32) (hw : ∀ b, 12 ≤ b → bt w b = false) : fX2_putInto k σ w v = some (laP p w v, σ) := by
  have hL := putInto_loop hF v (bt w) (fun x8 => some (x8, σ)) 5000 0 (w &&& (mkS p 12 ^^^ (-1))) (by omega) (by have := hF.2.2.2.2; omega) (fun b => by
    rw [bt_and, bt_not, bt_mkS _ (by decide)]
    by_cases hb : b < 12 ∧ p b = true
    · have h1 := cnt_lt p hb.1 hb.2
      have h2 : ¬ (cnt p 12 ≤ cnt p b + 0) := by omega
      simp [hb.1, hb.2, h2]
      intro _; omega
    · rw [if_neg hb]
      by_cases h12 : b < 12
      · have : p b = false := by cases h : p b with
          | false => rfl
          | true => exact absurd ⟨h12, h⟩ hb
        have h32 : b < 32 := by omega
        simp [h12, this, h32]
      · simp [hw b (by omega)])
  obtain ⟨y, h1, h2⟩ := hL
  have hz : nI 0 = (0 : Int32) := rfl
  rw [hz] at h1
  unfold fX2_putInto
  rw [lt_e, hF.2.2.1, h1]
  have : y = laP p w v := by
    apply bt_ext
    intro b hb
    rw [h2 b, laP, bt_mkS _ (by decide)]
    by_cases h12 : b < 12
    · cases h : p b <;> simp [h12, h]
    · simp [h12, hw b (by omega)]
  rw [this]
