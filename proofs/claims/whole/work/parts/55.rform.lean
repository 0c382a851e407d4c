/-! ===== forms as the reference holds them ===== -/
def RForm (σ : Mem) (i : Nat) (f : Fm) : Prop :=
  RPat σ i (fpt f) ∧ σ 364 i = nI (fkd f) ∧ (∀ c, c < 3 → σ 365 (3 * i + c) = nI (fnm f c)) ∧ (σ 369 i = mskP f ∧ σ 370 i = valP f) ∧
  (σ 367 i = nI (frc f) ∧ ∀ r, r < frc f → σ 368 (9 * i + 3 * r) = nI (frl f r).1 ∧ σ 368 (9 * i + 3 * r + 1) = nI (frl f r).2.1 ∧ σ 368 (9 * i + 3 * r + 2) = nI (frl f r).2.2)
theorem rnum_ok {σ : Mem} {i : Nat} {f : Fm} (h : RForm σ i f) (hf : Fok f) {l : Nat} (hl : l < 8) (hc : 0 < cnt (fl f l) 12) (w : Int32) : fX11_stands σ (nI i) (nI l) w = some (num f l w, σ) :=
  stands_ok h.1 hl hc (hf.2.2.1 l hl) w
theorem ruleHolds_ok {σ : Mem} {i : Nat} {f : Fm} (h : RForm σ i f) (hf : Fok f) {r : Nat} (hr : r < frc f) (w : Int32) : fX11_ruleHolds σ (nI i) (nI r) w = some (if rulP f r w = true then 1 else 0, σ) := by
  have hi := h.1.1
  have hc3 := hf.2.2.2.1
  obtain ⟨⟨hl, hlc⟩, hs⟩ := hf.2.2.2.2 r hr
  obtain ⟨r1, r2, r3⟩ := h.2.2.2.2.2 r hr
  have e : (9 : Int32) * nI i + 3 * nI r = nI (9 * i + 3 * r) := by
    have a : (9 : Int32) = nI 9 := rfl
    have c : (3 : Int32) = nI 3 := rfl
    rw [a, c, pk_mul, pk_mul, nI_add]
  have e1 : nI (9 * i + 3 * r) + 1 = nI (9 * i + 3 * r + 1) := nI_1 _
  have e2 : nI (9 * i + 3 * r) + 2 = nI (9 * i + 3 * r + 2) := nI_add _ 2
  unfold fX11_ruleHolds
  rw [lt_e, e, e1, e2]
  have i0 := inb_nI (show 9 * i + 3 * r < 108 by omega) (by decide)
  have i1 := inb_nI (show 9 * i + 3 * r + 1 < 108 by omega) (by decide)
  have i2 := inb_nI (show 9 * i + 3 * r + 2 < 108 by omega) (by decide)
  simp only [ck_t i1, ix_nI (show 9 * i + 3 * r < 2 ^ 31 by omega), ix_nI (show 9 * i + 3 * r + 1 < 2 ^ 31 by omega), ix_nI (show 9 * i + 3 * r + 2 < 2 ^ 31 by omega)]
  rw [r2, rnum_ok h hf hl hlc, cl_s]
  simp only [ck_t i0, ck_t i2, r1, r3]
  unfold rulP
  rcases hs with ⟨s1, s2⟩ | ⟨s1, s2, s3⟩ | ⟨s1, s2, s3⟩
  · rw [s1, if_pos rfl, if_pos (show nI 35 = 35 from rfl)]
    exact b10 _ _
  · have n0 : (nI (frl f r).2.2 != 0) = true := by
      have := nI_ne0 (n := (frl f r).2.2) (by omega) (by omega)
      simpa using this
    rw [s1, if_neg (show ¬ nI 47 = 35 by decide), if_pos (show nI 47 = 47 from rfl), ck_t n0, if_neg (show ¬ 47 = 35 by decide), if_pos rfl]
    exact b01 _ _
  · rw [s1, if_neg (show ¬ nI 60 = 35 by decide), if_neg (show ¬ nI 60 = 47 by decide), rnum_ok h hf s2 s3, cl_s, if_neg (show ¬ 60 = 35 by decide), if_neg (show ¬ 60 = 47 by decide)]
    exact b01 _ _
theorem all_step {f : Fm} {w : Int32} {r : Nat} (e : r < frc f) : (List.range (frc f)).all (fun q => decide (q < r) || rulP f q w) = (rulP f r w && (List.range (frc f)).all (fun q => decide (q < r + 1) || rulP f q w)) := by
  rw [Bool.eq_iff_iff, Bool.and_eq_true, List.all_eq_true, List.all_eq_true]
  simp only [List.mem_range, Bool.or_eq_true, decide_eq_true_eq]
  constructor
  · intro hq
    refine ⟨?_, fun q h2 => ?_⟩
    · rcases hq r e with a | a
      · omega
      · exact a
    · rcases hq q h2 with a | a
      · exact Or.inl (by omega)
      · exact Or.inr a
  · intro ⟨hp, hq⟩ q h2
    rcases hq q h2 with a | a
    · by_cases c : q = r
      · subst c; exact Or.inr hp
      · exact Or.inl (by omega)
    · exact Or.inr a
theorem all_end {f : Fm} {w : Int32} {r : Nat} (e : frc f ≤ r) : (List.range (frc f)).all (fun q => decide (q < r) || rulP f q w) = true := by
  rw [List.all_eq_true]
  intro q h2
  have := List.mem_range.mp h2
  have : q < r := by omega
  simp [this]
theorem fitsWord_loop {σ : Mem} {i : Nat} {f : Fm} (h : RForm σ i f) (hf : Fok f) (w : Int32) (kk : Mem → Int32 → Option (Int32 × Mem)) :
    ∀ (n r : Nat) (B : Bool), r ≤ frc f → frc f - r < n → fX11_fitsWord_L22 kk (nI i) w n σ (if B = true then 1 else 0) (nI r) = kk σ (if (B && (List.range (frc f)).all (fun q => decide (q < r) || rulP f q w)) = true then 1 else 0) := by
  have hc := hf.2.2.2.1
  have hi := h.1.1
  intro n
  induction n with
  | zero => intro r B hr hn; omega
  | succ n ih =>
    intro r B hr hn
    show fX11_fitsWord_L22_b kk (nI i) w (fX11_fitsWord_L22 kk (nI i) w n) σ _ (nI r) = _
    unfold fX11_fitsWord_L22_b
    rw [ck_t (inb_nI hi (by decide)), ix_nI (by omega), h.2.2.2.2.1]
    simp only [lt_e, nI_1]
    by_cases e : r < frc f
    · rw [if_pos (nI_lt e (by omega))]
      have ih0 := ih (r + 1) false (by omega) (by omega)
      have ih1 := ih (r + 1) true (by omega) (by omega)
      simp only [Bool.false_eq_true, if_false, Bool.false_and] at ih0
      simp only [if_true, Bool.true_and] at ih1
      cases B with
      | false =>
        simp only [Bool.false_eq_true, if_false, if_true, Bool.false_and]
        exact ih0
      | true =>
        simp only [if_true, Bool.true_and]
        rw [if_neg (by decide), ruleHolds_ok h hf e, cl_s, all_step e]
        by_cases hp : rulP f r w = true
        · rw [if_pos hp, if_neg (by decide), ih1, hp, Bool.true_and]
        · have hp' : rulP f r w = false := by simpa using hp
          rw [if_neg hp, if_pos rfl, ih0, hp']; simp
    · rw [if_neg (nI_nlt (by omega) (by omega)), all_end (by omega), Bool.and_true]
theorem fitsWord_ok {σ : Mem} {i : Nat} {f : Fm} (h : RForm σ i f) (hf : Fok f) (w : Int32) : fX11_fitsWord σ (nI i) w = some (if fitP f w = true then 1 else 0, σ) := by
  have hi := h.1.1
  unfold fX11_fitsWord fitP fX11_maskOf fX11_valueOf
  rw [ck_t (inb_nI hi (by decide)), cl_s, ck_t (inb_nI hi (by decide)), cl_s, ix_nI (by omega), h.2.2.2.1.1, h.2.2.2.1.2]
  by_cases e : w &&& mskP f = valP f
  · have hL := fitsWord_loop h hf w (fun m12 x13 => ck (isB x13) (some (x13, m12))) 5000 0 true (by omega) (by have := hf.2.2.2.1; omega)
    have hz : nI 0 = (0 : Int32) := rfl
    rw [hz, if_pos rfl] at hL
    rw [if_pos e, hL]
    simp only [e, decide_true, Bool.true_and, Nat.not_lt_zero, decide_false, Bool.false_or]
    cases (List.range (frc f)).all (fun r => rulP f r w) <;> simp [isB, ck]
  · rw [if_neg e]; simp [e]
theorem rIsOver_ok {σ : Mem} {i j : Nat} {f g : Fm} (h : RForm σ i f) (h' : RForm σ j g) : fX11_isOver σ (nI i) (nI j) = some (if ovrP f g = true then 1 else 0, σ) := by
  have hi := h.1.1
  have hj := h'.1.1
  unfold fX11_isOver ovrP fX11_maskOf fX11_valueOf
  rw [ck_t (inb_nI hi (by decide)), cl_s, ck_t (inb_nI hj (by decide)), cl_s, ix_nI (by omega), ix_nI (by omega), h.2.2.2.1.1, h'.2.2.2.1.1]
  simp only [ck_t (inb_nI hi (show 12 < 2 ^ 31 by decide)), ck_t (inb_nI hj (show 12 < 2 ^ 31 by decide)), cl_s, h.2.2.2.1.2, h'.2.2.2.1.2]
  by_cases a : mskP f &&& mskP g = mskP g
  · by_cases b : mskP f = mskP g
    · simp [a, b]
    · rw [if_pos a, if_neg b]
      simp only [a, b, decide_true, Bool.true_and, ne_eq, not_false_eq_true]
      exact b01 _ _
  · simp [a]
