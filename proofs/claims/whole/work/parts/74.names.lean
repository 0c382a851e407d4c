/-! ===== names; formOf, named, ofKind ===== -/
def Ltr (x : Nat) : Prop := 97 ≤ x ∧ x ≤ 122
def Nok (f : Fm) : Prop := Ltr (fnm f 0) ∧ (fnm f 1 = 0 ∨ Ltr (fnm f 1)) ∧ (fnm f 2 = 0 ∨ Ltr (fnm f 2)) ∧ (fnm f 1 = 0 → fnm f 2 = 0)
def nmIs (f : Fm) (x y z : Nat) : Bool := decide (fnm f 0 = x) && (decide (fnm f 1 = y) && decide (fnm f 2 = z))
def AOkF (n : Nat) (F : Nat → Fm) : Prop := ∀ i, i < n → Nok (F i) ∧ ∀ j, j < i → nmIs (F j) (fnm (F i) 0) (fnm (F i) 1) (fnm (F i) 2) = false
def AOk (A : Ab) : Prop := AOkF A.n A.F
def CSa {α : Type} (f : Mem → Option (α × Mem)) (g : Ab → α × Ab) : Prop := ∀ σ A, CInv σ A → AOk A → ∃ σ', f σ = some ((g A).1, σ') ∧ CInv σ' (g A).2 ∧ ∀ k, 362 ≤ k → σ' k = σ k
def RSa {α : Type} (f : Mem → Option (α × Mem)) (g : Ab → α × Ab) : Prop := ∀ σ A, RInv σ A → AOk A → ∃ σ', f σ = some ((g A).1, σ') ∧ RInv σ' (g A).2 ∧ ∀ k, k < 362 → σ' k = σ k
def nm3 (x y z : Nat) : Nat := if y = 0 then x else if z = 0 then x * 256 + y else (x * 256 + y) * 256 + z
theorem nmC_nm3 (f : Fm) : nmC f = nm3 (fnm f 0) (fnm f 1) (fnm f 2) := rfl
def Nm (x y z : Nat) : Prop := Ltr x ∧ (y = 0 ∨ Ltr y) ∧ (z = 0 ∨ Ltr z) ∧ (y = 0 → z = 0)
theorem nm3_lt {x y z : Nat} (h : Nm x y z) : nm3 x y z < 2 ^ 23 := by
  unfold Nm Ltr at h; unfold nm3
  split
  · omega
  · split <;> omega
theorem nm3_inj {x y z x' y' z' : Nat} (h : Nm x y z) (h' : Nm x' y' z') : nm3 x y z = nm3 x' y' z' ↔ x = x' ∧ y = y' ∧ z = z' := by
  unfold Nm Ltr at h h'; unfold nm3
  constructor
  · intro e
    by_cases a : y = 0
    · by_cases b : y' = 0
      · rw [if_pos a, if_pos b] at e; omega
      · rw [if_pos a, if_neg b] at e
        by_cases c : z' = 0
        · rw [if_pos c] at e; omega
        · rw [if_neg c] at e; omega
    · rw [if_neg a] at e
      by_cases b : y' = 0
      · rw [if_pos b] at e
        by_cases c : z = 0
        · rw [if_pos c] at e; omega
        · rw [if_neg c] at e; omega
      · rw [if_neg b] at e
        by_cases c : z = 0
        · rw [if_pos c] at e
          by_cases d : z' = 0
          · rw [if_pos d] at e; omega
          · rw [if_neg d] at e; omega
        · rw [if_neg c] at e
          by_cases d : z' = 0
          · rw [if_pos d] at e; omega
          · rw [if_neg d] at e; omega
  · rintro ⟨rfl, rfl, rfl⟩; rfl
theorem Nok.nm {f : Fm} (h : Nok f) : Nm (fnm f 0) (fnm f 1) (fnm f 2) := h
theorem nmC_eq {f : Fm} (h : Nok f) {x y z : Nat} (hn : Nm x y z) : decide (nmC f = nm3 x y z) = nmIs f x y z := by
  rw [nmC_nm3, nmIs]
  have := nm3_inj h.nm hn
  rw [Bool.eq_iff_iff]
  simp only [decide_eq_true_eq, Bool.and_eq_true]
  exact this
theorem shl8 {p s : Nat} (hp : p < 2 ^ 16) (hs : s < 256) : (nI p <<< ((8 : Int32) &&& 31)) ||| nI s = nI (p * 256 + s) := by
  apply bt_ext
  intro i hi
  rw [bt_or, show ((8 : Int32) &&& 31) = (nI 8 &&& 31) from rfl, bt_shl (by decide), bt_nI (by omega), bt_nI (by omega), bt_nI (by omega)]
  have e : p * 256 + s = 2 ^ 8 * p + s := by omega
  rw [e, Nat.testBit_two_pow_mul_add p (show s < 2 ^ 8 from hs)]
  by_cases h : i < 8
  · simp [h]
  · have hs' : s.testBit i = false := Nat.testBit_lt_two_pow (Nat.lt_of_lt_of_le hs (show 2 ^ 8 ≤ 2 ^ i from Nat.pow_le_pow_right (by decide) (by omega)))
    simp [h, hi, hs']
theorem withSign_ok (σ : Mem) {p s : Nat} (hp : p < 2 ^ 16) (hs : s < 256) : fX10_withSign σ (nI p) (nI s) = some (nI (p * 256 + s), σ) := by
  unfold fX10_withSign
  rw [shl8 hp hs]
/-- a name's code below k -/
theorem find_ok {σ : Mem} {k : Nat} {F : Nat → Fm} (hk : k ≤ 12) (h : ∀ i, i < k → σ (11 + 22 * i) 1 = nI (nmC (F i)) ∧ nmC (F i) < 2 ^ 31) {c : Nat} (hc : c < 2 ^ 31) : fX4_find σ (nI c) (nI k) = some (ansO (fndF (fun i => decide (nmC (F i) = c)) 0 k), σ) := by
  unfold fX4_find
  refine loopX (fX4_find_L2 (fun (x6 : Int32) => some (x6, σ)) (some ((-1 : Int32), σ)) σ (nI c) (nI k)) (fX4_find_L2_b (fun (x6 : Int32) => some (x6, σ)) (some ((-1 : Int32), σ)) σ (nI c) (nI k)) (fun _ _ => rfl) k
    (fun i => fndF (fun i => decide (nmC (F i) = c)) 0 k = fndF (fun i => decide (nmC (F i) = c)) i (k - i))
    (fun r => r = some (ansO (fndF (fun i => decide (nmC (F i) = c)) 0 k), σ)) ?_ ?_ 5000 0 (by omega) (by omega) rfl
  · intro rec e
    unfold fX4_find_L2_b
    rw [if_neg (nI_nlt (Nat.le_refl k) (by omega)), e, Nat.sub_self]
    rfl
  · intro i rec hi e
    unfold fX4_find_L2_b
    rw [if_pos (nI_lt hi (by omega)), if_pos (show nI i < 12 from nI_lt (b := 12) (by omega) (by decide)), ck_t (inb_nI (show i < 12 by omega) (by decide)), ix_nI (by omega), (h i hi).1, nI_1]
    rw [show k - i = (k - (i + 1)) + 1 by omega, fndF] at e
    by_cases z : nmC (F i) = c
    · left
      rw [if_pos (by rw [z])]
      rw [if_pos (by simpa using z)] at e
      rw [e]; rfl
    · right
      rw [if_neg (fun y => z ((nI_eq (h i hi).2 hc).mp y))]
      rw [if_neg (by simpa using z)] at e
      exact ⟨e, rfl⟩
theorem e3 (i c : Nat) : (3 : Int32) * nI i + nI c = nI (3 * i + c) := by
  rw [show (3 : Int32) = nI 3 from rfl, pk_mul, nI_add]
theorem e30 (i : Nat) : (3 : Int32) * nI i = nI (3 * i) := by
  rw [show (3 : Int32) = nI 3 from rfl, pk_mul]
theorem fndF_congr {p q : Nat → Bool} : ∀ {c i : Nat}, (∀ j, i ≤ j → j < i + c → p j = q j) → fndF p i c = fndF q i c
  | 0, i, _ => rfl
  | c + 1, i, h => by rw [fndF, fndF, h i (by omega) (by omega), fndF_congr (fun j h1 h2 => h j (by omega) (by omega))]
theorem formNamed_ok {σ : Mem} {A : Ab} (h : RInv σ A) (ha : AOk A) {x y z : Nat} (hx : x < 256) (hy : y < 256) (hz : z < 256) : fX11_formNamed σ (nI x) (nI y) (nI z) = some (ansO (fndF (fun i => nmIs (A.F i) x y z) 0 A.n), σ) := by
  have hn := h.forms.2.1
  unfold fX11_formNamed
  refine loopM (fX11_formNamed_L6 (fun (x8 : Int32) => some (x8, σ)) σ (nI x) (nI y) (nI z)) (fX11_formNamed_L6_b (fun (x8 : Int32) => some (x8, σ)) σ (nI x) (nI y) (nI z)) (fun _ _ _ => rfl) A.n
    (fun i t => t = ansO (fndF (fun i => nmIs (A.F i) x y z) 0 i))
    (fun r => r = some (ansO (fndF (fun i => nmIs (A.F i) x y z) 0 A.n), σ)) ?_ ?_ 5000 0 (-1) (by omega) (by omega) rfl
  · rintro t rec rfl
    unfold fX11_formNamed_L6_b
    rw [h.forms.1, if_neg (nI_nlt (Nat.le_refl _) (by omega))]
  · rintro i t rec hi rfl
    right
    unfold fX11_formNamed_L6_b
    have hnm := (h.forms.2.2 i hi).1.2.2.1
    have n0 := hnm 0 (by decide)
    have n1 := hnm 1 (by decide)
    have n2 := hnm 2 (by decide)
    rw [Nat.add_zero] at n0
    have hok := (ha i hi).1
    unfold Nok Ltr at hok
    have i0 := inb_nI (show 3 * i < 36 by omega) (show 36 < 2 ^ 31 by decide)
    have i1 := inb_nI (show 3 * i + 1 < 36 by omega) (show 36 < 2 ^ 31 by decide)
    have i2 := inb_nI (show 3 * i + 2 < 36 by omega) (show 36 < 2 ^ 31 by decide)
    rw [h.forms.1, if_pos (nI_lt hi (by omega)), e30, show nI (3 * i) + 1 = nI (3 * i + 1) from nI_1 _, show nI (3 * i) + 2 = nI (3 * i + 2) from nI_add _ 2, show nI i + 1 = nI (i + 1) from nI_1 i]
    simp only [ck_t i0, ck_t i1, ck_t i2, lt_e, ix_nI (show 3 * i < 2 ^ 31 by omega), ix_nI (show 3 * i + 1 < 2 ^ 31 by omega), ix_nI (show 3 * i + 2 < 2 ^ 31 by omega), n0, n1, n2]
    have hsucc := fndF_succ (fun i => nmIs (A.F i) x y z) i 0
    rw [Nat.zero_add] at hsucc
    have yes : nmIs (A.F i) x y z = true → fndF (fun i => nmIs (A.F i) x y z) 0 (i + 1) = some i := by
      intro hp
      rw [hsucc]
      cases hf : fndF (fun i => nmIs (A.F i) x y z) 0 i with
      | some w =>
        have hw := fndF_lt hf
        have hu := (ha i hi).2 w (by omega)
        have hp2 := hp
        simp only [nmIs, Bool.and_eq_true, decide_eq_true_eq] at hp2
        rw [hp2.1, hp2.2.1, hp2.2.2, hw.2.2] at hu
        cases hu
      | none => simp only [hp, if_true]
    have no : ¬ nmIs (A.F i) x y z = true → fndF (fun i => nmIs (A.F i) x y z) 0 (i + 1) = fndF (fun i => nmIs (A.F i) x y z) 0 i := by
      intro hp
      rw [hsucc]
      cases fndF (fun i => nmIs (A.F i) x y z) 0 i with
      | some w => rfl
      | none => simp only [hp]; rfl
    by_cases c0 : fnm (A.F i) 0 = x
    · rw [if_pos (by rw [c0])]
      by_cases c1 : fnm (A.F i) 1 = y
      · rw [if_pos (by rw [c1])]
        by_cases c2 : fnm (A.F i) 2 = z
        · rw [if_pos (by rw [c2])]
          exact ⟨_, by rw [yes (by simp [nmIs, c0, c1, c2])]; rfl, rfl⟩
        · rw [if_neg (fun q => c2 ((nI_eq (by omega) (by omega)).mp q))]
          exact ⟨_, by rw [no (by simp [nmIs, c2])], rfl⟩
      · rw [if_neg (fun q => c1 ((nI_eq (by omega) (by omega)).mp q))]
        exact ⟨_, by rw [no (by simp [nmIs, c1])], rfl⟩
    · rw [if_neg (fun q => c0 ((nI_eq (by omega) (by omega)).mp q))]
      exact ⟨_, by rw [no (by simp [nmIs, c0])], rfl⟩
/-- named -/
def lc (a : Int32) : Nat := if a < 0 then 0 else 97 + ix a
def gNamed (a b c : Int32) (A : Ab) : Int32 × Ab := if (0 ≤ a ∧ a ≤ 25) ∧ (-1 ≤ b ∧ b ≤ 25) ∧ (-1 ≤ c ∧ c ≤ 25) ∧ ¬ (b < 0 ∧ ¬ c < 0) then (ansO (fndF (fun i => nmIs (A.F i) (lc a) (lc b) (lc c)) 0 A.n), A) else bad A
theorem lc_of {b : Int32} (h : -1 ≤ b ∧ b ≤ 25) : (b = -1 ∧ b < 0 ∧ lc b = 0) ∨ (¬ b = -1 ∧ ¬ b < 0 ∧ Ltr (lc b) ∧ 97 + b = nI (lc b)) := by
  by_cases e : b < 0
  · left
    have : b = -1 := by
      apply Int32.toInt_inj.mp
      have h1 := Int32.le_iff_toInt_le.mp h.1
      have h2 := Int32.lt_iff_toInt_lt.mp e
      have e1 : (-1 : Int32).toInt = -1 := rfl
      have e2 : (0 : Int32).toInt = 0 := rfl
      omega
    exact ⟨this, e, by unfold lc; rw [if_pos e]⟩
  · right
    obtain ⟨v, hv, rfl⟩ := rngL (n := 25) ⟨by rw [Int32.not_lt] at e; exact e, h.2⟩ (by decide)
    refine ⟨fun z => e (by rw [z]; decide), e, ?_, ?_⟩
    · unfold lc Ltr; rw [if_neg e, ix_nI (by omega)]; omega
    · unfold lc; rw [if_neg e, ix_nI (by omega), show (97 : Int32) = nI 97 from rfl, nI_add]
theorem cs_named (a b c : Int32) : CSa (fun σ => fX10_named σ a b c) (gNamed a b c) := by
  intro σ A h ha
  show ∃ σ', fX10_named σ a b c = _ ∧ _
  unfold fX10_named gNamed
  simp only [lt_e]
  rw [within_ok, cl_s]
  by_cases c1 : 0 ≤ a ∧ a ≤ 25
  case neg => rw [if_neg c1, if_pos rfl, if_pos trivial, if_neg (fun z => c1 z.1)]; exact cbad h
  rw [if_pos c1, if_neg (by decide), within_ok, cl_s]
  by_cases c2 : -1 ≤ b ∧ b ≤ 25
  case neg => rw [if_neg c2, if_pos rfl, if_pos trivial, if_neg (fun z => c2 z.2.1)]; exact cbad h
  rw [if_pos c2, if_neg (by decide), within_ok, cl_s]
  by_cases c3 : -1 ≤ c ∧ c ≤ 25
  case neg => rw [if_neg c3, if_pos rfl, if_pos trivial, if_neg (fun z => c3 z.2.2.1)]; exact cbad h
  rw [if_pos c3, if_neg (by decide), if_neg (by decide)]
  have hn := h.mean.1.2.1
  have hfd : ∀ x y z, Nm x y z → fX4_find σ (nI (nm3 x y z)) (σ 9 1) = some (ansO (fndF (fun i => nmIs (A.F i) x y z) 0 A.n), σ) := by
    intro x y z hN
    rw [h.mean.1.1, find_ok (F := A.F) hn (fun i hi => ⟨(h.mean.1.2.2 i hi).1.1.2.1, by have := nm3_lt (ha i hi).1.nm; rw [nmC_nm3]; omega⟩) (by have := nm3_lt hN; omega)]
    rw [fndF_congr (fun j _ hj => nmC_eq (ha j (by omega)).1 hN)]
  have hla : Ltr (lc a) ∧ ¬ a = -1 ∧ 97 + a = nI (lc a) := by
    rcases lc_of (b := a) ⟨Int32.le_trans (show (-1 : Int32) ≤ 0 by decide) c1.1, c1.2⟩ with z | z
    · exact absurd z.2.1 (by rw [Int32.not_lt]; exact c1.1)
    · exact ⟨z.2.2.1, z.1, z.2.2.2⟩
  have hw1 : fX10_withLetter σ 0 a = some (nI (lc a), σ) := by
    unfold fX10_withLetter
    rw [if_neg hla.2.1, hla.2.2, show (0 : Int32) = nI 0 from rfl, withSign_ok σ (by decide) (by have := hla.1; unfold Ltr at this; omega), cl_s, Nat.zero_mul, Nat.zero_add]
  have hlx := hla.1
  unfold Ltr at hlx
  have hlt : ∀ p, p < 2 ^ 16 → ¬ c = -1 → Ltr (lc c) → 97 + c = nI (lc c) → fX10_withLetter σ (nI p) c = some (nI (p * 256 + lc c), σ) := by
    intro p hp q1 q2 q3
    unfold Ltr at q2
    unfold fX10_withLetter
    rw [if_neg q1, q3, withSign_ok σ hp (by omega), cl_s]
  rcases lc_of c2 with ⟨b1, b2, b3⟩ | ⟨b1, b2, b3, b4⟩
  · rcases lc_of c3 with ⟨d1, d2, d3⟩ | ⟨d1, d2, d3, d4⟩
    · rw [if_pos b1, if_pos d1, if_pos ⟨c1, c2, c3, fun z => z.2 d2⟩, hw1, cl_s]
      have hw2 : ∀ p, fX10_withLetter σ p b = some (p, σ) := fun p => by unfold fX10_withLetter; rw [if_pos b1]
      have hw3 : ∀ p, fX10_withLetter σ p c = some (p, σ) := fun p => by unfold fX10_withLetter; rw [if_pos d1]
      have := hfd (lc a) 0 0 ⟨hla.1, Or.inl rfl, Or.inl rfl, fun _ => rfl⟩
      rw [show nm3 (lc a) 0 0 = lc a by simp [nm3]] at this
      rw [hw2, cl_s, hw3, cl_s, this, cl_s, b3, d3]
      exact ⟨σ, rfl, h, fun _ _ => rfl⟩
    · rw [if_pos b1, if_neg d1, if_neg (fun z => z.2.2.2 ⟨b2, d2⟩)]
      exact cbad h
  · have hw2 : fX10_withLetter σ (nI (lc a)) b = some (nI (lc a * 256 + lc b), σ) := by
      have b5 := b3
      unfold Ltr at b5
      unfold fX10_withLetter
      rw [if_neg b1, b4, withSign_ok σ (by omega) (by omega), cl_s]
    rw [if_neg b1, if_pos ⟨c1, c2, c3, fun z => b2 z.1⟩, hw1, cl_s, hw2, cl_s]
    have b5 := b3
    unfold Ltr at b5
    rcases lc_of c3 with ⟨d1, d2, d3⟩ | ⟨d1, d2, d3, d4⟩
    · have hw3 : ∀ p, fX10_withLetter σ p c = some (p, σ) := fun p => by unfold fX10_withLetter; rw [if_pos d1]
      have := hfd (lc a) (lc b) 0 ⟨hla.1, Or.inr b3, Or.inl rfl, fun _ => rfl⟩
      have hb0 : ¬ lc b = 0 := by omega
      rw [show nm3 (lc a) (lc b) 0 = lc a * 256 + lc b by simp [nm3, hb0]] at this
      rw [hw3, cl_s, this, cl_s, d3]
      exact ⟨σ, rfl, h, fun _ _ => rfl⟩
    · have d5 := d3
      unfold Ltr at d5
      have := hfd (lc a) (lc b) (lc c) ⟨hla.1, Or.inr b3, Or.inr d3, fun z => by omega⟩
      have hb0 : ¬ lc b = 0 := by omega
      have hc0 : ¬ lc c = 0 := by omega
      rw [show nm3 (lc a) (lc b) (lc c) = (lc a * 256 + lc b) * 256 + lc c by simp [nm3, hb0, hc0]] at this
      rw [hlt _ (by omega) d1 d3 d4, cl_s, this, cl_s]
      exact ⟨σ, rfl, h, fun _ _ => rfl⟩
theorem rs_named (a b c : Int32) : RSa (fun σ => fX11_named σ a b c) (gNamed a b c) := by
  intro σ A h ha
  show ∃ σ', fX11_named σ a b c = _ ∧ _
  unfold fX11_named gNamed
  simp only [lt_e]
  rw [isInI σ a 0 25 0 25 rfl rfl, cl_s]
  by_cases c1 : 0 ≤ a ∧ a ≤ 25
  case neg => rw [if_neg c1, if_pos rfl, if_neg (fun z => c1 z.1)]; exact rbad h
  rw [if_pos c1, if_neg (by decide), isInI σ b (-1) 25 (-1) 25 rfl rfl, cl_s]
  by_cases c2 : -1 ≤ b ∧ b ≤ 25
  case neg => rw [if_neg c2, if_pos rfl, if_neg (fun z => c2 z.2.1)]; exact rbad h
  rw [if_pos c2, if_neg (by decide), isInI σ c (-1) 25 (-1) 25 rfl rfl, cl_s]
  by_cases c3 : -1 ≤ c ∧ c ≤ 25
  case neg => rw [if_neg c3, if_pos rfl, if_neg (fun z => c3 z.2.2.1)]; exact rbad h
  rw [if_pos c3, if_neg (by decide)]
  have hla : Ltr (lc a) ∧ 97 + a = nI (lc a) := by
    rcases lc_of (b := a) ⟨Int32.le_trans (show (-1 : Int32) ≤ 0 by decide) c1.1, c1.2⟩ with z | z
    · exact absurd z.2.1 (by rw [Int32.not_lt]; exact c1.1)
    · exact ⟨z.2.2.1, z.2.2.2⟩
  have hlx := hla.1
  unfold Ltr at hlx
  have key : ∀ (B : Int32) (y : Nat), y < 256 → B = nI y → y = lc b → (∀ (C : Int32) (z : Nat), z < 256 → C = nI z → z = lc c → ∃ σ', (cl (fX11_formNamed σ (97 + a) B C) fun r13 m12 => some (r13, m12)) = some (ansO (fndF (fun i => nmIs (A.F i) (lc a) (lc b) (lc c)) 0 A.n), σ') ∧ RInv σ' A ∧ Lo σ σ') := by
    rintro B y hy rfl rfl C z hz rfl rfl
    rw [hla.2, formNamed_ok h ha (by omega) hy hz, cl_s]
    exact ⟨σ, rfl, h, fun _ _ => rfl⟩
  rcases lc_of c2 with ⟨b1, b2, b3⟩ | ⟨b1, b2, b3, b4⟩
  · rcases lc_of c3 with ⟨d1, d2, d3⟩ | ⟨d1, d2, d3, d4⟩
    · rw [if_pos b2, if_pos d2, if_pos b2, if_pos d2, if_pos ⟨c1, c2, c3, fun z => z.2 d2⟩]
      exact key 0 0 (by decide) rfl b3.symm 0 0 (by decide) rfl d3.symm
    · rw [if_pos b2, if_neg d2, if_neg (fun z => z.2.2.2 ⟨b2, d2⟩)]
      exact rbad h
  · have b5 := b3
    unfold Ltr at b5
    rw [if_neg b2, if_neg b2]
    rcases lc_of c3 with ⟨d1, d2, d3⟩ | ⟨d1, d2, d3, d4⟩
    · rw [if_pos d2, if_pos ⟨c1, c2, c3, fun z => b2 z.1⟩]
      exact key _ (lc b) (by omega) b4 rfl 0 0 (by decide) rfl d3.symm
    · have d5 := d3
      unfold Ltr at d5
      rw [if_neg d2, if_pos ⟨c1, c2, c3, fun z => b2 z.1⟩]
      exact key _ (lc b) (by omega) b4 rfl _ (lc c) (by omega) d4 rfl
