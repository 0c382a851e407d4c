/-! ===== bytes of the tape, read ===== -/
theorem loop0 {S R : Type} (f : Nat → S → Option R) (b : (S → Option R) → S → Option R) (hf : ∀ n s, f (n + 1) s = b (f n) s) (N : Nat) (I : Nat → S → Prop) (Q : Option R → Prop)
    (he : ∀ m rec, I N m → Q (b rec m)) (h : ∀ i m rec, i < N → I i m → Q (b rec m) ∨ ∃ m', I (i + 1) m' ∧ b rec m = rec m') : ∀ fuel i m, i ≤ N → N - i < fuel → I i m → Q (f fuel m) := by
  intro fuel
  induction fuel with
  | zero => intro i m _ hn; omega
  | succ n ih =>
    intro i m hi hn hI
    rw [hf]
    by_cases e : i = N
    · subst e; exact he _ _ hI
    · rcases h i m (f n) (by omega) hI with h1 | ⟨m', h2, h3⟩
      · exact h1
      · rw [h3]; exact ih (i + 1) m' (by omega) (by omega) h2
theorem loop0T {S T R : Type} (f : Nat → S → T → Option R) (b : (S → T → Option R) → S → T → Option R) (hf : ∀ n s t, f (n + 1) s t = b (f n) s t) (N : Nat) (I : Nat → S → T → Prop) (Q : Option R → Prop)
    (he : ∀ m t rec, I N m t → Q (b rec m t)) (h : ∀ i m t rec, i < N → I i m t → Q (b rec m t) ∨ ∃ m' t', I (i + 1) m' t' ∧ b rec m t = rec m' t') : ∀ fuel i m t, i ≤ N → N - i < fuel → I i m t → Q (f fuel m t) := by
  intro fuel
  induction fuel with
  | zero => intro i m t _ hn; omega
  | succ n ih =>
    intro i m t hi hn hI
    rw [hf]
    by_cases e : i = N
    · subst e; exact he _ _ _ hI
    · rcases h i m t (f n) (by omega) hI with h1 | ⟨m', t', h2, h3⟩
      · exact h1
      · rw [h3]; exact ih (i + 1) m' t' (by omega) (by omega) h2
abbrev Tp : Type := Nat × (Nat → Nat)
def Tok (t : Tp) : Prop := t.1 ≤ 200 ∧ ∀ i, i < t.1 → t.2 i < 256
def bA (t : Tp) (i : Nat) : Int32 := if i < t.1 then nI (t.2 i) else -1
def RTp (σ : Mem) (t : Tp) : Prop := σ 362 28 = nI t.1 ∧ ∀ i, i < t.1 → σ 373 i = nI (t.2 i)
def CTp (σ : Mem) (t : Tp) : Prop := σ 281 1 = nI t.1 ∧ ∀ i, i < t.1 → σ 282 i = nI (t.2 i)
theorem cat_ok {σ : Mem} {t : Tp} (h : CTp σ t) (ht : Tok t) {i : Nat} (hi : i < 2 ^ 31) : fX0_at 281 σ (nI i) = some (bA t i, σ) := by
  have h1 := ht.1
  unfold fX0_at bA
  rw [if_neg (nI_pos hi), h.1]
  by_cases e : i < t.1
  · rw [if_pos (nI_lt e (by omega)), if_pos e, show al (281 + 1) = 200 from rfl, ck_t (inb_nI (show i < 200 by omega) (by decide)), ix_nI hi, h.2 i e]
  · rw [if_neg (nI_nlt (by omega) hi), if_neg e]
theorem rat_ok {σ : Mem} {t : Tp} (h : RTp σ t) (ht : Tok t) {i : Nat} (hi : i < 2 ^ 31) : fX11_byteAt σ (nI i) = some (bA t i, σ) := by
  have h1 := ht.1
  unfold fX11_byteAt bA
  rw [h.1]
  by_cases e : i < t.1
  · rw [if_pos (nI_lt e (by omega)), if_pos e, ck_t (inb_nI (show i < 200 by omega) (by decide)), ix_nI hi, h.2 i e]
  · rw [if_neg (nI_nlt (by omega) hi), if_neg e]
def isBt (t : Tp) (lo hi : Nat) (i : Nat) : Bool := decide (i < t.1) && (decide (lo ≤ t.2 i) && decide (t.2 i ≤ hi))
theorem bA_rng {t : Tp} (ht : Tok t) {lo hi : Nat} (hlo : lo < 2 ^ 31) (hhi : hi < 2 ^ 31) (h0 : 0 ≤ lo) (i : Nat) : (nI lo ≤ bA t i ∧ bA t i ≤ nI hi) ↔ isBt t lo hi i = true := by
  unfold bA isBt
  by_cases e : i < t.1
  · have := ht.2 i e
    rw [if_pos e]
    simp only [e, decide_true, Bool.true_and, Bool.and_eq_true, decide_eq_true_eq]
    rw [nI_leI (by omega) (by omega), nI_leI (by omega) (by omega)]
  · rw [if_neg e]
    simp only [e, decide_false, Bool.false_and]
    constructor
    · rintro ⟨a, _⟩
      have hp := nI_pos' hlo
      exact absurd (Int32.le_trans hp a) (by decide)
    · intro z; cases z
theorem cin {σ : Mem} {t : Tp} (ht : Tok t) (i : Nat) : fX10_within σ (bA t i) 97 122 = some (if isBt t 97 122 i = true then 1 else 0, σ) := by
  rw [within_ok]
  have := bA_rng ht (lo := 97) (hi := 122) (by decide) (by decide) (by decide) i
  rw [show nI 97 = (97 : Int32) from rfl, show nI 122 = (122 : Int32) from rfl] at this
  simp only [this]
theorem rangeT (σ : Mem) (a lo hi : Int32) : (if a < lo then some ((0 : Int32), σ) else if hi < a then some (0, σ) else some (1, σ)) = some (if lo ≤ a ∧ a ≤ hi then 1 else 0, σ) := by
  by_cases h : a < lo
  · rw [if_pos h, if_neg (fun c => absurd h (by rw [Int32.not_lt]; exact c.1))]
  · rw [if_neg h]
    rw [Int32.not_lt] at h
    by_cases h2 : hi < a
    · rw [if_pos h2, if_neg (fun c => absurd h2 (by rw [Int32.not_lt]; exact c.2))]
    · rw [if_neg h2]
      rw [Int32.not_lt] at h2
      rw [if_pos ⟨h, h2⟩]
theorem rin {σ : Mem} {t : Tp} (ht : Tok t) (i : Nat) : fX11_isLetter σ (bA t i) = some (if isBt t 97 122 i = true then 1 else 0, σ) := by
  unfold fX11_isLetter
  rw [rangeT]
  have := bA_rng ht (lo := 97) (hi := 122) (by decide) (by decide) (by decide) i
  rw [show nI 97 = (97 : Int32) from rfl, show nI 122 = (122 : Int32) from rfl] at this
  simp only [this]
theorem cdig {σ : Mem} {t : Tp} (ht : Tok t) (i : Nat) : fX10_isDigit σ (bA t i) = some (if isBt t 48 57 i = true then 1 else 0, σ) := by
  unfold fX10_isDigit
  rw [rangeT]
  have := bA_rng ht (lo := 48) (hi := 57) (by decide) (by decide) (by decide) i
  rw [show nI 48 = (48 : Int32) from rfl, show nI 57 = (57 : Int32) from rfl] at this
  simp only [this]
theorem rdigT {σ : Mem} {t : Tp} (ht : Tok t) (i : Nat) : fX11_isDigit σ (bA t i) = some (if isBt t 48 57 i = true then 1 else 0, σ) := by
  unfold fX11_isDigit
  rw [rangeT]
  have := bA_rng ht (lo := 48) (hi := 57) (by decide) (by decide) (by decide) i
  rw [show nI 48 = (48 : Int32) from rfl, show nI 57 = (57 : Int32) from rfl] at this
  simp only [this]
/-- whether a byte is c -/
def isC (t : Tp) (c i : Nat) : Bool := decide (i < t.1) && decide (t.2 i = c)
theorem bA_eq {t : Tp} (ht : Tok t) {c : Nat} (hc : c < 2 ^ 31) (i : Nat) : (bA t i = nI c) ↔ isC t c i = true := by
  unfold bA isC
  by_cases e : i < t.1
  · have := ht.2 i e
    rw [if_pos e, nI_eq (by omega) hc]
    simp [e]
  · rw [if_neg e]
    simp only [e, decide_false, Bool.false_and]
    constructor
    · intro z; exact absurd (nI_pos' hc) (by rw [← z]; decide)
    · intro z; cases z
/-- how many from i on are so, c at most -/
def spn (q : Nat → Bool) : Nat → Nat → Nat
  | _, 0 => 0
  | i, c + 1 => if q i = true then spn q (i + 1) c + 1 else 0
theorem spn_s {q : Nat → Bool} {i k N : Nat} (hk : k < N) : spn q i (N - k) = if q i = true then spn q (i + 1) (N - (k + 1)) + 1 else 0 := by
  obtain ⟨j, h1, h2⟩ : ∃ j, N - k = j + 1 ∧ N - (k + 1) = j := ⟨N - k - 1, by omega, by omega⟩
  rw [h1, h2, spn]
theorem spn_le (q : Nat → Bool) : ∀ c i, spn q i c ≤ c
  | 0, i => Nat.le_refl _
  | c + 1, i => by rw [spn]; have := spn_le q c (i + 1); split <;> omega
theorem spn_all {q : Nat → Bool} : ∀ {c i j : Nat}, i ≤ j → j < i + spn q i c → q j = true
  | 0, i, j, h1, h2 => by simp [spn] at h2; omega
  | c + 1, i, j, h1, h2 => by
    rw [spn] at h2
    by_cases e : q i = true
    · rw [if_pos e] at h2
      by_cases z : j = i
      · subst z; exact e
      · exact spn_all (c := c) (i := i + 1) (by omega) (by omega)
    · rw [if_neg e] at h2; omega
/-- digits' value -/
def dvl (t : Tp) (p : Nat) : Nat → Nat
  | 0 => 0
  | k + 1 => 10 * dvl t p k + (t.2 (p + k) - 48)
theorem dvl_lt {t : Tp} {p : Nat} : ∀ k, (∀ j, j < k → isBt t 48 57 (p + j) = true) → dvl t p k < 10 ^ k
  | 0, _ => by simp [dvl]
  | k + 1, h => by
    have ih := dvl_lt (t := t) (p := p) k (fun j hj => h j (by omega))
    have := h k (by omega)
    unfold isBt at this
    simp only [Bool.and_eq_true, decide_eq_true_eq] at this
    rw [dvl, Nat.pow_succ]
    omega
theorem dig_step {t : Tp} (ht : Tok t) {p k : Nat} (hb : isBt t 48 57 (p + k) = true) : (10 : Int32) * nI (dvl t p k) + bA t (p + k) - 48 = nI (dvl t p (k + 1)) := by
  unfold isBt at hb
  simp only [Bool.and_eq_true, decide_eq_true_eq] at hb
  unfold bA
  rw [if_pos hb.1, show (10 : Int32) = nI 10 from rfl, show (48 : Int32) = nI 48 from rfl, pk_mul, nI_add, pk_sub (by omega), dvl]
  congr 1
  omega
/-- digits in the class's line reader (q = 295) and text reader -/
theorem cdigs {σ : Mem} {t : Tp} (h : CTp σ t) (ht : Tok t) {p : Nat} (hp : p < 2 ^ 20) (q11 : Nat) (y12 y13 : Int32) (h3 : σ 295 3 = nI p) (kk : Mem → Int32 → Option (Int32 × Mem)) :
    ∃ σ', fX5_number_L66 kk q11 y12 y13 5000 σ 0 0 = kk σ' (nI (dvl t p (spn (isBt t 48 57) p 3))) ∧ σ' 295 3 = nI (p + spn (isBt t 48 57) p 3) ∧ (∀ j, j ≠ 3 → σ' 295 j = σ 295 j) ∧ ∀ q, q ≠ 295 → σ' q = σ q := by
  refine loopA (fX5_number_L66 kk q11 y12 y13) (fX5_number_L66_b kk q11 y12 y13) (fun _ _ _ _ => rfl) 3
    (fun k m x => x = nI (dvl t p k) ∧ m 295 3 = nI (p + k) ∧ (∀ j, j ≠ 3 → m 295 j = σ 295 j) ∧ (∀ q, q ≠ 295 → m q = σ q) ∧ spn (isBt t 48 57) p 3 = k + spn (isBt t 48 57) (p + k) (3 - k))
    (fun r => ∃ σ', r = kk σ' (nI (dvl t p (spn (isBt t 48 57) p 3))) ∧ σ' 295 3 = nI (p + spn (isBt t 48 57) p 3) ∧ (∀ j, j ≠ 3 → σ' 295 j = σ 295 j) ∧ ∀ q, q ≠ 295 → σ' q = σ q) ?_ ?_ 5000 0 σ 0 (by omega) (by omega) ⟨rfl, h3, fun _ _ => rfl, fun _ _ => rfl, by rw [Nat.zero_add]; rfl⟩
  · rintro m x rec ⟨rfl, h1, h2, h4, e⟩
    unfold fX5_number_L66_b
    rw [if_neg (by decide)]
    rw [Nat.sub_self, spn] at e
    rw [e]
    exact ⟨m, rfl, h1, h2, h4⟩
  · rintro k m x rec hk ⟨rfl, h1, h2, h4, e⟩
    unfold fX5_number_L66_b
    have hm : CTp m t := by unfold CTp; rw [h4 281 (by decide), h4 282 (by decide)]; exact h
    rw [if_pos (show nI k < 3 from nI_lt (b := 3) hk (by decide)), h1, cat_ok hm ht (by omega), cl_s, cdig ht, cl_s, h1, cat_ok hm ht (by omega), cl_s]
    simp only [lt_e]
    rw [spn_s (q := isBt t 48 57) (i := p + k) hk] at e
    by_cases z : isBt t 48 57 (p + k) = true
    · right
      rw [if_pos z] at e
      rw [if_pos z, if_neg (by decide), dig_step ht z, h1, nI_1, nI_1]
      exact ⟨_, _, ⟨rfl, sto_eq, fun j hj => by rw [sto_nj hj]; exact h2 j hj, fun q hq => by rw [sto_ne hq]; exact h4 q hq, by rw [e, show p + (k + 1) = p + k + 1 by omega]; omega⟩, rfl⟩
    · left
      rw [if_neg z] at e
      rw [if_neg z, if_pos rfl, e]
      exact ⟨m, rfl, h1, h2, h4⟩
theorem rdigs {σ : Mem} {t : Tp} (h : RTp σ t) (ht : Tok t) {p : Nat} (hp : p < 2 ^ 20) (y9 y10 y11 y12 : Int32) (h3 : σ 362 27 = nI p) (kk : Mem → Int32 → Option (Int32 × Mem)) :
    ∃ σ', fX11_readsField_L53 kk y9 y10 y11 y12 (nI p) 5000 σ 0 = kk σ' (nI (dvl t p (spn (isBt t 48 57) p 3))) ∧ σ' 362 27 = nI (p + spn (isBt t 48 57) p 3) ∧ (∀ j, j ≠ 27 → σ' 362 j = σ 362 j) ∧ ∀ q, q ≠ 362 → σ' q = σ q := by
  refine loop0T (fX11_readsField_L53 kk y9 y10 y11 y12 (nI p)) (fX11_readsField_L53_b kk y9 y10 y11 y12 (nI p)) (fun _ _ _ => rfl) 3
    (fun k m x => x = nI (dvl t p k) ∧ m 362 27 = nI (p + k) ∧ (∀ j, j ≠ 27 → m 362 j = σ 362 j) ∧ (∀ q, q ≠ 362 → m q = σ q) ∧ spn (isBt t 48 57) p 3 = k + spn (isBt t 48 57) (p + k) (3 - k))
    (fun r => ∃ σ', r = kk σ' (nI (dvl t p (spn (isBt t 48 57) p 3))) ∧ σ' 362 27 = nI (p + spn (isBt t 48 57) p 3) ∧ (∀ j, j ≠ 27 → σ' 362 j = σ 362 j) ∧ ∀ q, q ≠ 362 → σ' q = σ q) ?_ ?_ 5000 0 σ 0 (by omega) (by omega) ⟨rfl, h3, fun _ _ => rfl, fun _ _ => rfl, by rw [Nat.zero_add]; rfl⟩
  · rintro m x rec ⟨rfl, h1, h2, h4, e⟩
    unfold fX11_readsField_L53_b
    rw [h1, show (3 : Int32) = nI 3 from rfl, nI_add, if_neg (nI_nlt (Nat.le_refl _) (by omega))]
    rw [Nat.sub_self, spn] at e
    rw [e]
    exact ⟨m, rfl, h1, h2, h4⟩
  · rintro k m x rec hk ⟨rfl, h1, h2, h4, e⟩
    unfold fX11_readsField_L53_b
    have hm : RTp m t := by unfold RTp; rw [h2 28 (by decide), h4 373 (by decide)]; exact h
    rw [h1, show (3 : Int32) = nI 3 from rfl, nI_add, if_pos (nI_lt (by omega) (by omega)), rat_ok hm ht (by omega), cl_s, rdigT ht, cl_s, h1, rat_ok hm ht (by omega), cl_s]
    simp only [lt_e]
    rw [spn_s (q := isBt t 48 57) (i := p + k) hk] at e
    by_cases z : isBt t 48 57 (p + k) = true
    · right
      rw [if_pos z] at e
      rw [if_pos z, if_neg (by decide), dig_step ht z, h1, nI_1]
      exact ⟨_, _, ⟨rfl, sto_eq, fun j hj => by rw [sto_nj hj]; exact h2 j hj, fun q hq => by rw [sto_ne hq]; exact h4 q hq, by rw [e, show p + (k + 1) = p + k + 1 by omega]; omega⟩, rfl⟩
    · left
      rw [if_neg z] at e
      rw [if_neg z, if_pos rfl, e]
      exact ⟨m, rfl, h1, h2, h4⟩
