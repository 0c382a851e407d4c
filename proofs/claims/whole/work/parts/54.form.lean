/-! ===== forms ===== -/
/-- kind; the name's letters; the pattern's sign at each bit; how many rules; rules: sign, letter, number -/
abbrev Fm : Type := Nat × (Nat → Nat) × (Nat → Nat) × Nat × (Nat → Nat × Nat × Nat)
abbrev fkd (f : Fm) : Nat := f.1
abbrev fnm (f : Fm) : Nat → Nat := f.2.1
abbrev fpt (f : Fm) : Nat → Nat := f.2.2.1
abbrev frc (f : Fm) : Nat := f.2.2.2.1
abbrev frl (f : Fm) : Nat → Nat × Nat × Nat := f.2.2.2.2
abbrev fl (f : Fm) (l : Nat) : Nat → Bool := fp (fpt f) l
def mskP (f : Fm) : Int32 := mkS (fun b => fpt f b == 48 || fpt f b == 49) 12
def valP (f : Fm) : Int32 := mkS (fun b => fpt f b == 49) 12
def num (f : Fm) (l : Nat) (w : Int32) : Int32 := numP (dsc (fl f l) 12) (decide (3 < l)) w
def rulP (f : Fm) (r : Nat) (w : Int32) : Bool :=
  if (frl f r).1 = 35 then decide (num f (frl f r).2.1 w ≠ nI (frl f r).2.2)
  else if (frl f r).1 = 47 then decide (num f (frl f r).2.1 w % nI (frl f r).2.2 = 0)
  else decide (num f (frl f r).2.1 w < num f (frl f r).2.2 w)
def fitP (f : Fm) (w : Int32) : Bool := decide (w &&& mskP f = valP f) && (List.range (frc f)).all (fun r => rulP f r w)
def ovrP (f g : Fm) : Bool := decide (mskP f &&& mskP g = mskP g) && (decide (mskP f ≠ mskP g) && decide (valP f &&& mskP g = valP g))
/-- the letter of a sign -/
def lof (c : Nat) : Option Nat := if 119 ≤ c ∧ c ≤ 122 then some (c - 119) else if 87 ≤ c ∧ c ≤ 90 then some (c - 87 + 4) else none
theorem lof_sgn {c l : Nat} (h : lof c = some l) : l < 8 ∧ sgn l = c := by
  unfold lof at h
  split at h
  · cases h
    have : c = 119 ∨ c = 120 ∨ c = 121 ∨ c = 122 := by omega
    rcases this with rfl | rfl | rfl | rfl <;> decide
  · split at h
    · cases h
      have : c = 87 ∨ c = 88 ∨ c = 89 ∨ c = 90 := by omega
      rcases this with rfl | rfl | rfl | rfl <;> decide
    · cases h
theorem sgn_lof : ∀ l, l < 8 → lof (sgn l) = some l := by decide
theorem lof_none {c : Nat} (h : lof c = none) {l : Nat} (hl : l < 8) : sgn l ≠ c := by
  intro e
  rw [← e, sgn_lof l hl] at h
  cases h
/-- letters by their highest bits, of the m highest bits -/
def ordL (pt : Nat → Nat) : Nat → List Nat
  | 0 => []
  | m + 1 => match lof (pt (11 - m)) with
    | some l => if l ∈ ordL pt m then ordL pt m else ordL pt m ++ [l]
    | none => ordL pt m
def lts (f : Fm) : List Nat := ordL (fpt f) 12
def Fok (f : Fm) : Prop := fkd f < 7 ∧ (∀ b, b < 12 → fpt f b < 256) ∧ (∀ l, l < 8 → cnt (fl f l) 12 ≤ 8) ∧ frc f ≤ 3 ∧
  ∀ r, r < frc f → ((frl f r).2.1 < 8 ∧ 0 < cnt (fl f (frl f r).2.1) 12) ∧ ((frl f r).1 = 35 ∧ (frl f r).2.2 ≤ 255 ∨ (frl f r).1 = 47 ∧ 2 ≤ (frl f r).2.2 ∧ (frl f r).2.2 ≤ 9 ∨ (frl f r).1 = 60 ∧ (frl f r).2.2 < 8 ∧ 0 < cnt (fl f (frl f r).2.2) 12)
def nmC (f : Fm) : Nat := if fnm f 1 = 0 then fnm f 0 else if fnm f 2 = 0 then fnm f 0 * 256 + fnm f 1 else (fnm f 0 * 256 + fnm f 1) * 256 + fnm f 2
/-- a form as the class holds it -/
def CForm (σ : Mem) (k : Nat) (f : Fm) : Prop :=
  (σ k 0 = nI (fkd f) ∧ σ k 1 = nI (nmC f) ∧ σ k 2 = mskP f ∧ σ k 3 = valP f) ∧
  (∀ l, l < 8 → CField σ (k + 1 + 5 + 2 * l) (fl f l) (decide (3 < l))) ∧
  (σ k 6 = nI (lts f).length ∧ ∀ i (h : i < (lts f).length), σ (k + 2) i = nI (lts f)[i]) ∧
  (σ k 10 = nI (frc f) ∧ ∀ r, r < frc f → σ (k + 3) r = nI (frl f r).1 ∧ σ (k + 4) r = nI (frl f r).2.1 ∧ σ (k + 5) r = nI (frl f r).2.2)
theorem cnum_ok {σ : Mem} {k : Nat} {f : Fm} (h : CForm σ k f) {l : Nat} (hl : l < 8) (hc : 0 < cnt (fl f l) 12) (w : Int32) : fX2_numberIn (k + 1 + 5 + 2 * l) σ w = some (num f l w, σ) :=
  numberIn_ok (h.2.1 l hl) hc w
theorem b01 (c : Prop) [Decidable c] (σ : Mem) : (if c then some ((1 : Int32), σ) else some (0, σ)) = some (if decide c = true then 1 else 0, σ) := by
  by_cases h : c <;> simp [h]
theorem b10 (c : Prop) [Decidable c] (σ : Mem) : (if c then some ((0 : Int32), σ) else some (1, σ)) = some (if decide (¬ c) = true then 1 else 0, σ) := by
  by_cases h : c <;> simp [h]
theorem holdsIn_ok {σ : Mem} {k : Nat} {f : Fm} (h : CForm σ k f) (hf : Fok f) {r : Nat} (hr : r < frc f) (w : Int32) : fX3_holdsIn k σ w (nI r) = some (if rulP f r w = true then 1 else 0, σ) := by
  obtain ⟨hk, hp, h8, hc, hru⟩ := hf
  obtain ⟨⟨hl, hlc⟩, hs⟩ := hru r hr
  obtain ⟨r1, r2, r3⟩ := h.2.2.2.2 r hr
  unfold fX3_holdsIn
  have hi := inb_nI (show r < 3 by omega) (by decide)
  rw [ck_t hi, ix_nI (by omega), r2, ck_t (inb_nI hl (by decide)), ix_nI (by omega), cnum_ok h hl hlc, cl_s, ck_t hi, lt_e, ck_t hi, r1, r3]
  unfold rulP
  rcases hs with ⟨s1, s2⟩ | ⟨s1, s2, s3⟩ | ⟨s1, s2, s3⟩
  · rw [s1, if_pos rfl, if_pos (show nI 35 = 35 from rfl)]
    exact b10 _ _
  · have n0 : (nI (frl f r).2.2 != 0) = true := by
      have := nI_ne0 (n := (frl f r).2.2) (by omega) (by omega)
      simpa using this
    rw [s1, if_neg (show ¬ nI 47 = 35 by decide), if_pos (show nI 47 = 47 from rfl), if_pos (show 0 < nI (frl f r).2.2 from nI_lt (a := 0) (by omega) (by omega)), ck_t n0, if_neg (show ¬ 47 = 35 by decide), if_pos rfl]
    exact b01 _ _
  · rw [s1, if_neg (show ¬ nI 60 = 35 by decide), if_neg (show ¬ nI 60 = 47 by decide), if_neg (nI_pos (by omega)), if_pos (show nI (frl f r).2.2 < 8 from nI_lt (b := 8) s2 (by decide)), ck_t (inb_nI s2 (by decide)), ix_nI (by omega), cnum_ok h s2 s3, cl_s, if_neg (show ¬ 60 = 35 by decide), if_neg (show ¬ 60 = 47 by decide)]
    exact b01 _ _
theorem doesFit_loop {σ : Mem} {k : Nat} {f : Fm} (h : CForm σ k f) (hf : Fok f) (w : Int32) (k34 k42 : Mem → Option (Int32 × Mem)) :
    ∀ (n r : Nat), r ≤ frc f → frc f - r < n → fX3_doesFit_L17 k34 k42 k w n σ (nI r) = if ((List.range (frc f)).all (fun q => decide (q < r) || rulP f q w)) = true then k42 σ else k34 σ := by
  have hc := hf.2.2.2.1
  intro n
  induction n with
  | zero => intro r hr hn; omega
  | succ n ih =>
    intro r hr hn
    show fX3_doesFit_L17_b k34 k42 k w (fX3_doesFit_L17 k34 k42 k w n) σ (nI r) = _
    unfold fX3_doesFit_L17_b
    rw [h.2.2.2.1]
    by_cases e : r < frc f
    · rw [if_pos (nI_lt e (by omega)), holdsIn_ok h hf e, cl_s, nI_1]
      by_cases hp : rulP f r w = true
      · rw [if_pos hp, if_neg (by decide), ih (r + 1) (by omega) (by omega)]
        have : (List.range (frc f)).all (fun q => decide (q < r + 1) || rulP f q w) = (List.range (frc f)).all (fun q => decide (q < r) || rulP f q w) := by
          rw [Bool.eq_iff_iff, List.all_eq_true, List.all_eq_true]
          simp only [List.mem_range, Bool.or_eq_true, decide_eq_true_eq]
          constructor
          · intro hq q h2
            rcases hq q h2 with a | a
            · by_cases c : q = r
              · subst c; exact Or.inr hp
              · exact Or.inl (by omega)
            · exact Or.inr a
          · intro hq q h2
            rcases hq q h2 with a | a
            · exact Or.inl (by omega)
            · exact Or.inr a
        rw [this]
      · rw [if_neg hp, if_pos rfl, if_neg]
        intro hq
        rw [List.all_eq_true] at hq
        have := hq r (List.mem_range.mpr e)
        simp at this
        exact hp this
    · rw [if_neg (nI_nlt (by omega) (by omega)), if_pos]
      rw [List.all_eq_true]
      intro q h2
      have := List.mem_range.mp h2
      have : q < r := by omega
      simp [this]
theorem doesFit_ok {σ : Mem} {k : Nat} {f : Fm} (h : CForm σ k f) (hf : Fok f) (w : Int32) : fX3_doesFit k σ w = some (if fitP f w = true then 1 else 0, σ) := by
  unfold fX3_doesFit fitP
  rw [h.1.2.2.1, h.1.2.2.2]
  by_cases e : w &&& mskP f = valP f
  · have hL := doesFit_loop h hf w (fun m6 => some (0, m6)) (fun m8 => some (1, m8)) 5000 0 (by omega) (by have := hf.2.2.2.1; omega)
    have hz : nI 0 = (0 : Int32) := rfl
    rw [hz] at hL
    rw [if_pos e, hL]
    simp only [e, decide_true, Bool.true_and, Nat.not_lt_zero, decide_false, Bool.false_or]
    cases (List.range (frc f)).all (fun r => rulP f r w) <;> simp
  · rw [if_neg e]; simp [e]
theorem cIsOver_ok {σ : Mem} {k j : Nat} {f g : Fm} (h : CForm σ k f) (h' : CForm σ j g) : fX3_isOver k σ j = some (if ovrP f g = true then 1 else 0, σ) := by
  unfold fX3_isOver ovrP
  rw [h.1.2.2.1, h.1.2.2.2, h'.1.2.2.1, h'.1.2.2.2]
  simp only [lt_e]
  by_cases a : mskP f &&& mskP g = mskP g
  · by_cases b : mskP f = mskP g
    · simp [a, b]
    · rw [if_pos a, if_neg b, if_neg (by decide)]
      simp only [a, b, decide_true, Bool.true_and, ne_eq, not_false_eq_true]
      exact b01 _ _
  · simp [a]
theorem cIsTwin_ok {σ : Mem} {k j : Nat} {f g : Fm} (h : CForm σ k f) (h' : CForm σ j g) : fX3_isTwinOf k σ j = some (if (decide (mskP f = mskP g) && decide (valP f = valP g)) = true then 1 else 0, σ) := by
  unfold fX3_isTwinOf
  rw [h.1.2.2.1, h.1.2.2.2, h'.1.2.2.1, h'.1.2.2.2]
  by_cases a : mskP f = mskP g
  · rw [if_pos a]
    simp only [a, decide_true, Bool.true_and]
    exact b01 _ _
  · simp [a]
