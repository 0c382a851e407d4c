/-! ===== what words mean ===== -/
def fitS (F : Nat → Fm) (n : Nat) (w : Int32) : Int32 := mkS (fun i => fitP (F i) w) n
def bst (F : Nat → Fm) (n : Nat) (w : Int32) (i : Nat) : Bool := fitP (F i) w && (List.range n).all (fun j => !fitP (F j) w || (decide (j = i) || ovrP (F i) (F j)))
def fndF (p : Nat → Bool) : Nat → Nat → Option Nat
  | _, 0 => none
  | i, c + 1 => if p i then some i else fndF p (i + 1) c
def mnN (F : Nat → Fm) (n : Nat) (w : Int32) : Nat := if fitS F n w = 0 then 12 else (fndF (bst F n w) 0 n).getD 13
theorem fndF_lt {p : Nat → Bool} : ∀ {c i j : Nat}, fndF p i c = some j → i ≤ j ∧ j < i + c ∧ p j = true
  | 0, i, j, h => by cases h
  | c + 1, i, j, h => by
    rw [fndF] at h
    by_cases hp : p i = true
    · rw [if_pos hp] at h; cases h; exact ⟨Nat.le_refl _, by omega, hp⟩
    · rw [if_neg hp] at h
      have := fndF_lt h
      exact ⟨by omega, by omega, this.2.2⟩
theorem fndF_none {p : Nat → Bool} : ∀ {c i : Nat}, fndF p i c = none → ∀ j, i ≤ j → j < i + c → p j = false
  | 0, i, h, j, h1, h2 => by omega
  | c + 1, i, h, j, h1, h2 => by
    rw [fndF] at h
    by_cases hp : p i = true
    · rw [if_pos hp] at h; cases h
    · rw [if_neg hp] at h
      by_cases e : j = i
      · subst e; simpa using hp
      · exact fndF_none h j (by omega) (by omega)
theorem mnN_lt {F : Nat → Fm} {n : Nat} (hn : n ≤ 12) (w : Int32) : mnN F n w < 14 ∧ (mnN F n w < 12 → mnN F n w < n) := by
  unfold mnN
  by_cases h : fitS F n w = 0
  · rw [if_pos h]; omega
  · rw [if_neg h]
    cases hf : fndF (bst F n w) 0 n with
    | none => simp
    | some j => have := fndF_lt hf; simp; omega
theorem eq0_bt {x : Int32} : x = 0 ↔ ∀ j, j < 32 → bt x j = false := by
  constructor
  · intro h j _; rw [h]; exact bt_0 j
  · intro h; exact bt_ext (fun j hj => by rw [h j hj, bt_0])
theorem and_one0 {x : Int32} {k : Nat} (hk : k < 32) : (x &&& (1 <<< (nI k &&& 31)) = 0) ↔ bt x k = false := by
  rw [eq0_bt]
  constructor
  · intro h
    have := h k hk
    rw [bt_and, bt_one hk] at this
    simpa using this
  · intro h j _
    rw [bt_and, bt_one hk]
    by_cases e : j = k
    · subst e; simp [h]
    · simp [e]
theorem fitS_bt {F : Nat → Fm} {n : Nat} (hn : n ≤ 12) (w : Int32) (i : Nat) : bt (fitS F n w) i = (decide (i < n) && fitP (F i) w) := bt_mkS _ (by omega) i
theorem rest0 {F : Nat → Fm} {n i : Nat} (hn : n ≤ 12) (hi : i < n) (w : Int32) (ov : Int32) (hov : ∀ j, j < n → bt ov j = ovrP (F i) (F j)) : ((fitS F n w &&& ((1 <<< (nI i &&& 31)) ^^^ (-1))) &&& (ov ^^^ (-1)) = 0) ↔ (List.range n).all (fun j => !fitP (F j) w || (decide (j = i) || ovrP (F i) (F j))) = true := by
  rw [eq0_bt, List.all_eq_true]
  constructor
  · intro h j hj
    have hj' := List.mem_range.mp hj
    have := h j (by omega)
    rw [bt_and, bt_and, bt_not, bt_not, bt_one (by omega), fitS_bt hn, hov j hj'] at this
    have h32 : j < 32 := by omega
    simp only [hj', h32, decide_true, Bool.true_and] at this
    cases hfit : fitP (F j) w with
    | false => simp
    | true =>
      rw [hfit] at this
      by_cases e : j = i
      · simp [e]
      · cases ho : ovrP (F i) (F j) with
        | true => simp
        | false => rw [ho] at this; simp [e] at this
  · intro h j hj
    rw [bt_and, bt_and, bt_not, bt_not, bt_one (by omega), fitS_bt hn]
    by_cases hjn : j < n
    · have := h j (List.mem_range.mpr hjn)
      rw [hov j hjn]
      cases hfit : fitP (F j) w with
      | false => simp
      | true =>
        rw [hfit] at this
        by_cases e : j = i
        · simp [e]
        · have ho : ovrP (F i) (F j) = true := by simpa [e] using this
          simp [ho]
    · simp [hjn]
/-! the class's meanings -/
def COver (σ : Mem) (n : Nat) (F : Nat → Fm) : Prop := ∀ i, i < n → σ 277 i = mkS (fun j => ovrP (F i) (F j)) n
def CForms (σ : Mem) (n : Nat) (F : Nat → Fm) : Prop := σ 9 1 = nI n ∧ n ≤ 12 ∧ ∀ i, i < n → CForm σ (11 + 22 * i) (F i) ∧ Fok (F i)
theorem among_loop {σ : Mem} {n : Nat} {F : Nat → Fm} (hC : CForms σ n F) (hO : COver σ n F) (w : Int32) (k47 : Int32 → Option (Int32 × Mem)) (k55 : Option (Int32 × Mem)) :
    ∀ (c m i : Nat), i + c = n → c < m → fX6_meaningAmong_L9 k47 k55 σ (fitS F n w) m (nI i) = match fndF (bst F n w) i c with | some j => k47 (nI j) | none => k55 := by
  have hn := hC.2.1
  intro c
  induction c with
  | zero =>
    intro m i hi hm
    cases m with
    | zero => omega
    | succ m =>
      show fX6_meaningAmong_L9_b k47 k55 σ _ (fX6_meaningAmong_L9 k47 k55 σ (fitS F n w) m) (nI i) = _
      unfold fX6_meaningAmong_L9_b
      rw [hC.1, if_neg (nI_nlt (by omega) (by omega))]
      rfl
  | succ c ih =>
    intro m i hi hm
    cases m with
    | zero => omega
    | succ m =>
      show fX6_meaningAmong_L9_b k47 k55 σ _ (fX6_meaningAmong_L9 k47 k55 σ (fitS F n w) m) (nI i) = _
      unfold fX6_meaningAmong_L9_b
      rw [hC.1, if_pos (nI_lt (show i < n by omega) (by omega))]
      simp only [lt_e, nI_1]
      rw [ih m (i + 1) (by omega) (by omega), fndF]
      have hb := fitS_bt (F := F) hn w i
      have hin : i < n := by omega
      simp only [hin, decide_true, Bool.true_and] at hb
      by_cases hf : fitP (F i) w = true
      · rw [if_neg (by rw [and_one0 (by omega), hb, hf]; decide), ck_t (inb_nI (show i < 12 by omega) (by decide)), ix_nI (by omega), hO i hin]
        have hr := rest0 (F := F) hn hin w (mkS (fun j => ovrP (F i) (F j)) n) (fun j hj => by rw [bt_mkS _ (by omega)]; simp [hj])
        by_cases ha : (List.range n).all (fun j => !fitP (F j) w || (decide (j = i) || ovrP (F i) (F j))) = true
        · rw [if_pos (hr.mpr ha)]
          have : bst F n w i = true := by rw [bst, hf, ha]; rfl
          rw [if_pos this]
        · rw [if_neg (fun z => ha (hr.mp z))]
          have : ¬ bst F n w i = true := by rw [bst, hf, Bool.true_and]; exact ha
          rw [if_neg this]
      · have hf' : fitP (F i) w = false := by simpa using hf
        rw [if_pos (by rw [and_one0 (by omega), hb, hf'])]
        have : ¬ bst F n w i = true := by rw [bst, hf']; simp
        rw [if_neg this]
theorem among_ok {σ : Mem} {n : Nat} {F : Nat → Fm} (hC : CForms σ n F) (hO : COver σ n F) (w : Int32) : fX6_meaningAmong σ (fitS F n w) = some (nI (mnN F n w), σ) := by
  unfold fX6_meaningAmong mnN
  by_cases h : fitS F n w = 0
  · rw [if_pos h, if_pos h]; rfl
  · rw [if_neg h, if_neg h]
    have hn := hC.2.1
    have hL := among_loop hC hO w (fun x5 => some (x5, σ)) (some (13, σ)) n 5000 0 (by omega) (by omega)
    have hz : nI 0 = (0 : Int32) := rfl
    rw [hz] at hL
    rw [hL]
    cases fndF (bst F n w) 0 n <;> rfl
/-- what is known of a word -/
def kno (F : Nat → Fm) (n : Nat) (w : Int32) : Int32 := ((1 + nI (mnN F n w)) <<< ((12 : Int32) &&& 31)) ||| fitS F n w
theorem known_loop {σ : Mem} {n : Nat} {F : Nat → Fm} (hC : CForms σ n F) (w : Int32) (kk : Mem → Int32 → Option (Int32 × Mem)) :
    ∀ (m i : Nat), i ≤ n → n - i < m → fX6_knownOf_L20 kk w m σ (mkS (fun j => fitP (F j) w) i) (nI i) = kk σ (fitS F n w) := by
  have hn := hC.2.1
  intro m
  induction m with
  | zero => intro i hi hm; omega
  | succ m ih =>
    intro i hi hm
    show fX6_knownOf_L20_b kk w (fX6_knownOf_L20 kk w m) σ _ (nI i) = _
    unfold fX6_knownOf_L20_b
    rw [hC.1]
    by_cases e : i < n
    · rw [if_pos (nI_lt e (by omega)), ck_t (inb_nI (show i < 12 by omega) (by decide)), ix_nI (by omega), doesFit_ok (hC.2.2 i e).1 (hC.2.2 i e).2, cl_s]
      simp only [lt_e, nI_1]
      have := ih (i + 1) (by omega) (by omega)
      rw [mkS] at this
      by_cases hf : fitP (F i) w = true
      · rw [if_pos hf] at this ⊢
        rw [if_neg (by decide)]
        exact this
      · rw [if_neg hf] at this ⊢
        rw [if_pos rfl]
        rw [Int32.or_zero] at this
        exact this
    · have : i = n := by omega
      subst this
      rw [if_neg (nI_nlt (by omega) (by omega))]
      rfl
def CKnown (σ : Mem) (n : Nat) (F : Nat → Fm) : Prop := ∀ w, w < 4096 → σ 276 w = 0 ∨ σ 276 w = kno F n (nI w)
theorem and4095 {w : Nat} (hw : w < 4096) : nI w &&& 4095 = nI w := by
  apply bt_ext
  intro i hi
  rw [bt_and, show (4095 : Int32) = nI (2 ^ 12 - 1) from rfl, bt_nI (n := 2 ^ 12 - 1) (by decide), Nat.testBit_two_pow_sub_one]
  by_cases h : i < 12
  · simp [h]
  · rw [isW_nI hw i (by omega)]; simp
theorem knownOf_ok {σ : Mem} {n : Nat} {F : Nat → Fm} (hC : CForms σ n F) (hO : COver σ n F) (hK : CKnown σ n F) {w : Nat} (hw : w < 4096) : fX6_knownOf σ (nI w) = some (kno F n (nI w), sto σ 276 w (kno F n (nI w))) := by
  unfold fX6_knownOf
  have hi := inb_nI hw (show 4096 < 2 ^ 31 by decide)
  simp only [lt_e, and4095 hw, ck_t hi, ix_nI (show w < 2 ^ 31 by omega)]
  by_cases h0 : σ 276 w = 0
  · rw [if_pos h0]
    have hL := known_loop hC (nI w) (fun m9 x10 => cl (fX6_meaningAmong m9 x10) fun r12 m11 => some ((sto m11 276 w (((1 + r12) <<< ((12 : Int32) &&& 31)) ||| x10)) 276 w, sto m11 276 w (((1 + r12) <<< ((12 : Int32) &&& 31)) ||| x10))) 5000 0 (by omega) (by have := hC.2.1; omega)
    have hz : nI 0 = (0 : Int32) := rfl
    rw [hz] at hL
    rw [show (0 : Int32) = mkS (fun j => fitP (F j) (nI w)) 0 from rfl] at *
    rw [hL, among_ok hC hO, cl_s]
    simp [sto_k, kno]
  · rw [if_neg h0]
    have h1 : σ 276 w = kno F n (nI w) := (hK w hw).resolve_left h0
    rw [h1]
    congr 2
    funext a b
    rw [sto_k]
    by_cases e : a = 276 ∧ b = w
    · rw [if_pos e, e.1, e.2, h1]
    · rw [if_neg e]
