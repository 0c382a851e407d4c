/-! ===== texts: what they are ===== -/
def kdS (k : Nat) : Nat := [112, 106, 108, 99, 115, 116, 103].getD k 0
def kdO (c : Nat) : Option Nat := if c = 112 then some 0 else if c = 106 then some 1 else if c = 108 then some 2 else if c = 99 then some 3 else if c = 115 then some 4 else if c = 116 then some 5 else if c = 103 then some 6 else none
theorem kdS_all : ∀ k, k < 7 → kdO (kdS k) = some k ∧ kdS k < 256 ∧ sV 1 k = nI (kdS k) ∧ sV 4 k = nI (kdS k) := by decide
theorem kdO_iff {c k : Nat} : kdO c = some k ↔ k < 7 ∧ c = kdS k := by
  constructor
  · intro h
    unfold kdO at h
    repeat (split at h; · cases h; subst_vars; exact ⟨by decide, rfl⟩)
    cases h
  · rintro ⟨h, rfl⟩; exact (kdS_all k h).1
def kdA (t : Tp) (p : Nat) : Option Nat := if p < t.1 then kdO (t.2 p) else none
theorem kdA_iff {t : Tp} (ht : Tok t) {p k : Nat} (hk : k < 7) : (nI (kdS k) = bA t p) ↔ kdA t p = some k := by
  have hs := (kdS_all k hk).2.1
  unfold kdA bA
  by_cases e : p < t.1
  · have := ht.2 p e
    rw [if_pos e, if_pos e, nI_eq (by omega) (by omega), kdO_iff]
    constructor
    · intro z; exact ⟨hk, z.symm⟩
    · intro z; exact z.2.symm
  · rw [if_neg e, if_neg e]
    constructor
    · intro z; exact absurd (nI_pos' (show kdS k < 2 ^ 31 by omega)) (by rw [z]; decide)
    · intro z; cases z
def lofA (t : Tp) (p : Nat) : Option Nat := if p < t.1 then lof (t.2 p) else none
theorem lofA_8 {t : Tp} {p l : Nat} (h : lofA t p = some l) : l < 8 ∧ p < t.1 ∧ t.2 p = sgn l := by
  unfold lofA at h
  split at h
  · have := lof_iff.mp h; exact ⟨this.1, by assumption, this.2⟩
  · cases h
theorem cletA (σ : Mem) {t : Tp} (ht : Tok t) (p : Nat) : fX10_letterOf σ (bA t p) = some (ansO (lofA t p), σ) := by
  unfold bA lofA
  by_cases e : p < t.1
  · rw [if_pos e, if_pos e]; exact cletterN σ (ht.2 p e)
  · rw [if_neg e, if_neg e]; exact cletter1 σ
theorem rletA (σ : Mem) {t : Tp} (ht : Tok t) (p : Nat) : fX11_letterOf σ (bA t p) = some (ansO (lofA t p), σ) := by
  unfold bA lofA
  by_cases e : p < t.1
  · have := ht.2 p e
    rw [if_pos e, if_pos e]; exact rletterN σ (by omega)
  · rw [if_neg e, if_neg e]; exact rletter1 σ
def pP (t : Tp) (p : Nat) : Nat → Nat := fun b => t.2 (p + (11 - b))
def fpk (P : Nat → Nat) (k l b : Nat) : Bool := fp P l b && decide (12 ≤ b + k)
def sgM (o : Option Nat) (P : Nat → Nat) (k c : Nat) : Bool := match o with
  | some l => decide (cnt (fpk P k l) 12 < 8)
  | none => c == 48 || (c == 49 || c == 46)
def sgOk (t : Tp) (p k : Nat) : Bool := decide (p + k < t.1) && sgM (lof (t.2 (p + k))) (pP t p) k (t.2 (p + k))
theorem pP_k {t : Tp} {p k : Nat} (hk : k < 12) : pP t p (11 - k) = t.2 (p + k) := by
  unfold pP
  rw [show 11 - (11 - k) = k by omega]
theorem fpk_new {P : Nat → Nat} {k l : Nat} (hk : k < 12) (h : fp P l (11 - k) = true) : fpk P (k + 1) l = fun x => fpk P k l x || decide (x = 11 - k) := by
  funext x
  unfold fpk
  by_cases e : x = 11 - k
  · subst e
    have : 12 ≤ 11 - k + (k + 1) := by omega
    simp [h, this]
  · have : (12 ≤ x + (k + 1)) ↔ (12 ≤ x + k) := by omega
    simp [e, this]
theorem fpk_same {P : Nat → Nat} {k l : Nat} (hk : k < 12) (h : fp P l (11 - k) = false) : fpk P (k + 1) l = fpk P k l := by
  funext x
  unfold fpk
  by_cases e : x = 11 - k
  · subst e; rw [h]; rfl
  · have : (12 ≤ x + (k + 1)) ↔ (12 ≤ x + k) := by omega
    simp [this]
theorem fpk_12 (P : Nat → Nat) (l : Nat) : fpk P 12 l = fp P l := by
  funext x
  unfold fpk
  have : 12 ≤ x + 12 := by omega
  simp [this]
theorem fpk_gt {P : Nat → Nat} {k l x : Nat} (hk : k < 12) (h : fpk P k l x = true) : 11 - k < x := by
  unfold fpk at h
  simp only [Bool.and_eq_true, decide_eq_true_eq] at h
  omega
/-- a rule behind its comma -/
def ruP (P : Nat → Nat) (t : Tp) (p : Nat) : Nat ⊕ (Nat × Nat × Nat × Nat) := match lofA t p with
  | none => .inl p
  | some l => if 0 < cnt (fp P l) 12 then
      (if isC t 60 (p + 1) = true then (match lofA t (p + 2) with
        | none => .inl (p + 2)
        | some j => if 0 < cnt (fp P j) 12 then .inr (p + 3, 60, l, j) else .inl (p + 2))
      else if isC t 35 (p + 1) = true then (if spn (isBt t 48 57) (p + 2) 3 = 0 ∨ ¬ dvl t (p + 2) (spn (isBt t 48 57) (p + 2) 3) ≤ 255 then .inl (p + 2) else .inr (p + 2 + spn (isBt t 48 57) (p + 2) 3, 35, l, dvl t (p + 2) (spn (isBt t 48 57) (p + 2) 3)))
      else if isC t 47 (p + 1) = true then (if spn (isBt t 48 57) (p + 2) 3 = 0 ∨ ¬ (2 ≤ dvl t (p + 2) (spn (isBt t 48 57) (p + 2) 3) ∧ dvl t (p + 2) (spn (isBt t 48 57) (p + 2) 3) ≤ 9) then .inl (p + 2) else .inr (p + 2 + spn (isBt t 48 57) (p + 2) 3, 47, l, dvl t (p + 2) (spn (isBt t 48 57) (p + 2) 3)))
      else .inl (p + 1))
    else .inl p
abbrev Rl : Type := Nat → Nat × Nat × Nat
def rusP (P : Nat → Nat) (t : Tp) : Nat → Nat → Nat → Rl → Nat ⊕ (Nat × Nat × Rl)
  | 0, r, p, rl => .inr (p, r, rl)
  | c + 1, r, p, rl => if isC t 44 p = true then (match ruP P t (p + 1) with
    | .inl e => .inl e
    | .inr x => rusP P t c (r + 1) x.1 (fun i => if i = r then x.2 else rl i)) else .inr (p, r, rl)
/-- a statement -/
def nmK (t : Tp) (p : Nat) : Nat := spn (isBt t 97 122) (p + 1) 3
def nmF (t : Tp) (p : Nat) : Nat → Nat := fun i => if i < nmK t p then t.2 (p + 1 + i) else 0
def tkn (F : Nat → Fm) (c : Nat) (t : Tp) (p : Nat) : Option Nat := fndF (fun i => nmIs (F i) (nmF t p 0) (nmF t p 1) (nmF t p 2)) 0 c
def pat0 (t : Tp) (p : Nat) : Nat := p + 1 + nmK t p + 1
def patK (t : Tp) (p : Nat) : Nat := spn (sgOk t (pat0 t p)) 0 12
def stP (F : Nat → Fm) (c : Nat) (t : Tp) (p : Nat) : Nat ⊕ (Nat × Fm) :=
  if c = 12 then .inl p else match kdA t p with
    | none => .inl p
    | some kd => if nmK t p = 0 ∨ tkn F c t p ≠ none ∨ ¬ isC t 58 (p + 1 + nmK t p) = true then .inl (p + 1 + nmK t p)
      else if patK t p < 12 then .inl (pat0 t p + patK t p)
      else match rusP (pP t (pat0 t p)) t 3 0 (pat0 t p + 12) (fun _ => (0, 0, 0)) with
        | .inl e => .inl e
        | .inr x => .inr (x.1, (kd, nmF t p, pP t (pat0 t p), x.2.1, x.2.2))
def updF (F : Nat → Fm) (c : Nat) (f : Fm) : Nat → Fm := fun i => if i = c then f else F i
def txP (t : Tp) : Nat → Nat → Nat → (Nat → Fm) → Nat ⊕ (Nat × (Nat → Fm))
  | 0, _, p, _ => .inl p
  | k + 1, c, p, F => match stP F c t p with
    | .inl e => .inl e
    | .inr x => if x.1 = t.1 then .inr (c + 1, updF F c x.2) else if isC t 59 x.1 = true then txP t k (c + 1) (x.1 + 1) (updF F c x.2) else .inl x.1
theorem isC_lt {t : Tp} {c i : Nat} (h : isC t c i = true) : i < t.1 ∧ t.2 i = c := by
  unfold isC at h
  simp only [Bool.and_eq_true, decide_eq_true_eq] at h
  exact h
theorem isBt_lt {t : Tp} {lo hi i : Nat} (h : isBt t lo hi i = true) : i < t.1 ∧ lo ≤ t.2 i ∧ t.2 i ≤ hi := by
  unfold isBt at h
  simp only [Bool.and_eq_true, decide_eq_true_eq] at h
  exact h
theorem spn_bt {t : Tp} {lo hi p c : Nat} (h : 0 < spn (isBt t lo hi) p c) : p + spn (isBt t lo hi) p c ≤ t.1 := by
  have := spn_all (q := isBt t lo hi) (i := p) (c := c) (j := p + spn (isBt t lo hi) p c - 1) (by omega) (by omega)
  have := (isBt_lt this).1
  omega
theorem ruP_r {P : Nat → Nat} {t : Tp} {p : Nat} {x : Nat × Nat × Nat × Nat} (h : ruP P t p = .inr x) :
    x.1 ≤ t.1 ∧ p < x.1 ∧ (x.2.2.1 < 8 ∧ 0 < cnt (fp P x.2.2.1) 12) ∧ (x.2.1 = 35 ∧ x.2.2.2 ≤ 255 ∨ x.2.1 = 47 ∧ 2 ≤ x.2.2.2 ∧ x.2.2.2 ≤ 9 ∨ x.2.1 = 60 ∧ x.2.2.2 < 8 ∧ 0 < cnt (fp P x.2.2.2) 12) := by
  unfold ruP at h
  cases hl : lofA t p with
  | none => rw [hl] at h; cases h
  | some l =>
    rw [hl] at h
    simp only at h
    have h8 := lofA_8 hl
    by_cases c : 0 < cnt (fp P l) 12
    · rw [if_pos c] at h
      by_cases c1 : isC t 60 (p + 1) = true
      · rw [if_pos c1] at h
        cases hj : lofA t (p + 2) with
        | none => rw [hj] at h; cases h
        | some j =>
          rw [hj] at h
          simp only at h
          have j8 := lofA_8 hj
          by_cases d : 0 < cnt (fp P j) 12
          · rw [if_pos d] at h
            cases h
            exact ⟨by show p + 3 ≤ t.1; omega, by show p < p + 3; omega, ⟨h8.1, c⟩, Or.inr (Or.inr ⟨rfl, j8.1, d⟩)⟩
          · rw [if_neg d] at h; cases h
      · rw [if_neg c1] at h
        by_cases c2 : isC t 35 (p + 1) = true
        · rw [if_pos c2] at h
          by_cases d : spn (isBt t 48 57) (p + 2) 3 = 0 ∨ ¬ dvl t (p + 2) (spn (isBt t 48 57) (p + 2) 3) ≤ 255
          · rw [if_pos d] at h; cases h
          · rw [if_neg d] at h
            cases h
            have := spn_bt (t := t) (lo := 48) (hi := 57) (p := p + 2) (c := 3) (by omega)
            exact ⟨this, by show p < p + 2 + _; omega, ⟨h8.1, c⟩, Or.inl ⟨rfl, by show dvl t (p + 2) _ ≤ 255; omega⟩⟩
        · rw [if_neg c2] at h
          by_cases c3 : isC t 47 (p + 1) = true
          · rw [if_pos c3] at h
            by_cases d : spn (isBt t 48 57) (p + 2) 3 = 0 ∨ ¬ (2 ≤ dvl t (p + 2) (spn (isBt t 48 57) (p + 2) 3) ∧ dvl t (p + 2) (spn (isBt t 48 57) (p + 2) 3) ≤ 9)
            · rw [if_pos d] at h; cases h
            · rw [if_neg d] at h
              cases h
              have := spn_bt (t := t) (lo := 48) (hi := 57) (p := p + 2) (c := 3) (by omega)
              exact ⟨this, by show p < p + 2 + _; omega, ⟨h8.1, c⟩, Or.inr (Or.inl ⟨rfl, by show 2 ≤ dvl t (p + 2) _; omega, by show dvl t (p + 2) _ ≤ 9; omega⟩)⟩
          · rw [if_neg c3] at h; cases h
    · rw [if_neg c] at h; cases h
theorem ruP_l {P : Nat → Nat} {t : Tp} {p e : Nat} (h : ruP P t p = .inl e) : e ≤ p + 2 := by
  unfold ruP at h
  cases hl : lofA t p with
  | none => rw [hl] at h; cases h; omega
  | some l =>
    rw [hl] at h
    simp only at h
    split at h
    · split at h
      · cases hj : lofA t (p + 2) with
        | none => rw [hj] at h; cases h; omega
        | some j =>
          rw [hj] at h
          simp only at h
          split at h
          · cases h
          · cases h; omega
      · split at h
        · split at h
          · cases h; omega
          · cases h
        · split at h
          · split at h
            · cases h; omega
            · cases h
          · cases h; omega
    · cases h; omega
