/-! ===== trees: sides, bits that are of use ===== -/
def onesS (F : Nat → Fm) (n b : Nat) : Int32 := mkS (fun i => bt (valP (F i)) b) n
def zerosS (F : Nat → Fm) (n b : Nat) : Int32 := mkS (fun i => bt (mskP (F i)) b && !bt (valP (F i)) b) n
def sdS (F : Nat → Fm) (n : Nat) (S : Int32) (b : Nat) (s : Bool) : Int32 := S &&& ((if s then zerosS F n b else onesS F n b) ^^^ (-1))
def usf (F : Nat → Fm) (n : Nat) (S : Int32) (b : Nat) : Bool := (List.range n).any (fun f => bt S f && bt (mskP (F f)) b)
def isS (n : Nat) (S : Int32) : Prop := ∀ i, n ≤ i → bt S i = false
theorem val_msk {f : Fm} {b : Nat} (h : bt (valP f) b = true) : bt (mskP f) b = true := by
  unfold valP mskP at *
  rw [bt_mkS _ (by decide)] at *
  simp only [Bool.and_eq_true, decide_eq_true_eq] at h
  have := h.2
  simp only [beq_iff_eq] at this
  simp [h.1, this]
theorem isS_sd {F : Nat → Fm} {n : Nat} {S : Int32} (h : isS n S) (b : Nat) (s : Bool) : isS n (sdS F n S b s) := by
  intro i hi
  unfold sdS
  rw [bt_and, h i hi]; rfl
theorem isS_isW {n : Nat} {S : Int32} (hn : n ≤ 12) (h : isS n S) : isW S := fun i hi => h i (by omega)
def CT (σ : Mem) (F : Nat → Fm) (n : Nat) : Prop := ∀ b, b < 12 → σ 288 b = onesS F n b ∧ σ 289 b = zerosS F n b
theorem shlb {k : Nat} (hk : k < 32) (c : Bool) : (if c = true then (1 : Int32) else 0) <<< (nI k &&& 31) = if c = true then 1 <<< (nI k &&& 31) else 0 := by
  cases c
  · simp only [Bool.false_eq_true, if_false]
    apply bt_ext
    intro i _
    rw [bt_shl hk, bt_0, bt_0]; simp
  · rfl
theorem lookB {n : Nat} {F : Nat → Fm} {b : Nat} (hb : b < 12) (kk : Mem → Option (Unit × Mem)) (σ : Mem) (hC : CForms σ n F) (h8 : σ 288 b = 0) (h9 : σ 289 b = 0) :
    ∃ m', fX8_lookAtForms_L24 kk (nI b) 5000 σ 0 = kk m' ∧ m' 288 b = onesS F n b ∧ m' 289 b = zerosS F n b ∧ (∀ j, j ≠ b → m' 288 j = σ 288 j ∧ m' 289 j = σ 289 j) ∧ ∀ q, q ≠ 288 → q ≠ 289 → m' q = σ q := by
  have hn := hC.2.1
  refine loopM (fX8_lookAtForms_L24 kk (nI b)) (fX8_lookAtForms_L24_b kk (nI b)) (fun _ _ _ => rfl) n
    (fun k m => m 288 b = onesS F k b ∧ m 289 b = zerosS F k b ∧ (∀ j, j ≠ b → m 288 j = σ 288 j ∧ m 289 j = σ 289 j) ∧ ∀ q, q ≠ 288 → q ≠ 289 → m q = σ q)
    (fun r => ∃ m', r = kk m' ∧ m' 288 b = onesS F n b ∧ m' 289 b = zerosS F n b ∧ (∀ j, j ≠ b → m' 288 j = σ 288 j ∧ m' 289 j = σ 289 j) ∧ ∀ q, q ≠ 288 → q ≠ 289 → m' q = σ q) ?_ ?_ 5000 0 σ (by omega) (by omega) ⟨h8, h9, fun _ _ => ⟨rfl, rfl⟩, fun _ _ _ => rfl⟩
  · rintro m rec ⟨g1, g2, g3, g4⟩
    unfold fX8_lookAtForms_L24_b
    rw [g4 9 (by decide) (by decide), hC.1, if_neg (nI_nlt (Nat.le_refl _) (by omega))]
    exact ⟨m, rfl, g1, g2, g3, g4⟩
  · rintro k m rec hk ⟨g1, g2, g3, g4⟩
    right
    unfold fX8_lookAtForms_L24_b
    have hf := (hC.2.2 k hk).1
    have hI := inb_nI (show k < 12 by omega) (show 12 < 2 ^ 31 by decide)
    have hB := inb_nI hb (show 12 < 2 ^ 31 by decide)
    have v3 : m (11 + 22 * k) 3 = valP (F k) := by rw [g4 _ (by omega) (by omega)]; exact hf.1.2.2.2
    have v2 : m (11 + 22 * k) 2 = mskP (F k) := by rw [g4 _ (by omega) (by omega)]; exact hf.1.2.2.1
    rw [g4 9 (by decide) (by decide), hC.1, if_pos (nI_lt hk (by omega)), nI_1]
    simp only [ck_t hI, ck_t hB, lt_e, ix_nI (show k < 2 ^ 31 by omega), ix_nI (show b < 2 ^ 31 by omega)]
    rw [v3, sto_ne (show 11 + 22 * k ≠ 288 by omega), v2, v3, sto_ne (show (289 : Nat) ≠ 288 by decide), g1, g2, shr1 (by omega), shr1 (by omega), shlb (by omega), shlb (by omega)]
    refine ⟨_, ⟨?_, ?_, fun j hj => ⟨by rw [sto_ne (by decide), sto_nj hj]; exact (g3 j hj).1, by rw [sto_nj hj, sto_ne (by decide)]; exact (g3 j hj).2⟩, fun q a c => by rw [sto_ne c, sto_ne a]; exact g4 q a c⟩, rfl⟩
    · rw [sto_ne (by decide), sto_eq]; rfl
    · rw [sto_eq]
      unfold zerosS
      rw [mkS]
      congr 1
      rw [bt_and, bt_not]
      have : b < 32 := by omega
      simp [this]
theorem look_ok {σ : Mem} {n : Nat} {F : Nat → Fm} (hC : CForms σ n F) : ∃ σ', fX8_lookAtForms σ = some ((), σ') ∧ CT σ' F n ∧ ∀ q, q ≠ 288 → q ≠ 289 → σ' q = σ q := by
  have hn := hC.2.1
  unfold fX8_lookAtForms
  refine loopM (fX8_lookAtForms_L2 (fun (m4 : Mem) => some ((), m4))) (fX8_lookAtForms_L2_b (fun (m4 : Mem) => some ((), m4))) (fun _ _ _ => rfl) 12
    (fun b m => (∀ c, c < b → m 288 c = onesS F n c ∧ m 289 c = zerosS F n c) ∧ ∀ q, q ≠ 288 → q ≠ 289 → m q = σ q)
    (fun r => ∃ σ', r = some ((), σ') ∧ CT σ' F n ∧ ∀ q, q ≠ 288 → q ≠ 289 → σ' q = σ q) ?_ ?_ 5000 0 σ (by omega) (by omega) ⟨fun c hc => by omega, fun _ _ _ => rfl⟩
  · rintro m rec ⟨g1, g2⟩
    unfold fX8_lookAtForms_L2_b
    rw [if_neg (by decide)]
    exact ⟨m, rfl, g1, g2⟩
  · rintro b m rec hb ⟨g1, g2⟩
    right
    unfold fX8_lookAtForms_L2_b
    have hB := inb_nI hb (show 12 < 2 ^ 31 by decide)
    rw [if_pos (show nI b < 12 from nI_lt (b := 12) hb (by decide)), nI_1]
    simp only [ck_t hB, lt_e, ix_nI (show b < 2 ^ 31 by omega)]
    have hs : ∀ q, q ≠ 288 → q ≠ 289 → sto (sto m 288 b 0) 289 b 0 q = σ q := fun q a c => by rw [sto_ne c, sto_ne a]; exact g2 q a c
    obtain ⟨m1, c1, c2, c3, c4, c5⟩ := lookB (F := F) (n := n) hb (fun m11 => rec m11 (nI (b + 1))) (sto (sto m 288 b 0) 289 b 0) (hC.congr (fun q x y => hs q (by omega) (by omega))) (by rw [sto_ne (by decide), sto_eq]) sto_eq
    rw [c1]
    refine ⟨m1, ⟨fun c hc => ?_, fun q x y => by rw [c5 q x y]; exact hs q x y⟩, rfl⟩
    by_cases e : c = b
    · subst e; exact ⟨c2, c3⟩
    · have h1 := c4 c e
      have h2 := g1 c (by omega)
      exact ⟨by rw [h1.1, sto_ne (by decide), sto_nj e]; exact h2.1, by rw [h1.2, sto_nj e, sto_ne (by decide)]; exact h2.2⟩
theorem cuse_ok {σ : Mem} {n : Nat} {F : Nat → Fm} (hn : n ≤ 12) (h : CT σ F n) {S : Int32} (hS : isS n S) {b : Nat} (hb : b < 12) : fX8_isUseful σ (nI b) S = some (if usf F n S b = true then 1 else 0, σ) := by
  have hB := inb_nI hb (show 12 < 2 ^ 31 by decide)
  unfold fX8_isUseful
  simp only [ck_t hB, ix_nI (show b < 2 ^ 31 by omega)]
  rw [(h b hb).1, (h b hb).2]
  have key : (S &&& (onesS F n b ||| zerosS F n b) = 0) ↔ ¬ usf F n S b = true := by
    rw [eq0_bt]
    unfold usf
    constructor
    · intro h1 h2
      rw [List.any_eq_true] at h2
      obtain ⟨f, hf, h3⟩ := h2
      have hf' := List.mem_range.mp hf
      simp only [Bool.and_eq_true] at h3
      have := h1 f (by omega)
      unfold onesS zerosS at this
      rw [bt_and, bt_or, bt_mkS _ (by omega), bt_mkS _ (by omega), h3.1, h3.2] at this
      simp [hf'] at this
    · intro h1 j hj
      unfold onesS zerosS
      rw [bt_and, bt_or, bt_mkS _ (by omega), bt_mkS _ (by omega)]
      by_cases hjn : j < n
      · cases hSj : bt S j with
        | false => rfl
        | true =>
          have hm : bt (mskP (F j)) b = false := by
            cases hq : bt (mskP (F j)) b with
            | false => rfl
            | true => exact absurd (by rw [List.any_eq_true]; exact ⟨j, List.mem_range.mpr hjn, by simp [hSj, hq]⟩) h1
          have hv : bt (valP (F j)) b = false := by
            cases hq : bt (valP (F j)) b with
            | false => rfl
            | true => rw [val_msk hq] at hm; cases hm
          simp [hm, hv]
      · simp [hS j (by omega)]
  by_cases e : usf F n S b = true
  · rw [if_neg (fun z => key.mp z e), if_pos e]
  · rw [if_pos (key.mpr e), if_neg e]
/-! the reference's -/
theorem sd_bits {F : Nat → Fm} {n : Nat} {S : Int32} (hn : n ≤ 12) (hS : isS n S) {b : Nat} (s : Bool) : sdS F n S b s = mkS (fun f => bt S f && !(bt (mskP (F f)) b && (bt (valP (F f)) b != s))) n := by
  apply bt_ext
  intro i hi
  unfold sdS
  rw [bt_and, bt_not, bt_mkS _ (by omega)]
  by_cases hin : i < n
  · have hvm := val_msk (f := F i) (b := b)
    cases s with
    | false =>
      simp only [Bool.false_eq_true, if_false, onesS]
      rw [bt_mkS _ (by omega)]
      cases hv : bt (valP (F i)) b with
      | false => simp [hin, hi]
      | true => rw [hvm hv]; simp [hin]
    | true =>
      simp only [if_true, zerosS]
      rw [bt_mkS _ (by omega)]
      cases hv : bt (valP (F i)) b with
      | false => simp [hin, hi]
      | true => simp [hin, hi]
  · rw [hS i (by omega)]; simp [hin]
theorem side_ok {σ : Mem} {A : Ab} (h : RInv σ A) {S : Int32} (hS : isS A.n S) {b : Nat} (hb : b < 12) (s : Bool) : fX11_side σ S (nI b) (if s = true then 1 else 0) = some (sdS A.F A.n S b s, σ) := by
  have hn := h.forms.2.1
  unfold fX11_side
  rw [sd_bits hn hS]
  refine loopA (fX11_side_L6 (fun (m9 : Mem) (x10 : Int32) => some (x10, m9)) S (nI b) (if s = true then 1 else 0)) (fX11_side_L6_b (fun (m9 : Mem) (x10 : Int32) => some (x10, m9)) S (nI b) (if s = true then 1 else 0)) (fun _ _ _ _ => rfl) A.n
    (fun k m t => m = σ ∧ t = mkS (fun f => bt S f && !(bt (mskP (A.F f)) b && (bt (valP (A.F f)) b != s))) k)
    (fun r => r = some (mkS (fun f => bt S f && !(bt (mskP (A.F f)) b && (bt (valP (A.F f)) b != s))) A.n, σ)) ?_ ?_ 5000 0 σ 0 (by omega) (by omega) ⟨rfl, rfl⟩
  · rintro m t rec ⟨rfl, rfl⟩
    unfold fX11_side_L6_b
    rw [h.forms.1, if_neg (nI_nlt (Nat.le_refl _) (by omega))]
  · rintro k m t rec hk ⟨rfl, rfl⟩
    right
    have hI := inb_nI (show k < 12 by omega) (show 12 < 2 ^ 31 by decide)
    have hf := (h.forms.2.2 k hk).1.2.2.2.1
    unfold fX11_side_L6_b fX11_maskOf fX11_valueOf
    simp only [ck_t hI, cl_s, lt_e, ix_nI (show k < 2 ^ 31 by omega), hf.1, hf.2]
    rw [h.forms.1, if_pos (nI_lt hk (by omega)), has_ok m _ (show b < 32 by omega), cl_s, has_ok m _ (show k < 32 by omega), cl_s, shr1 (by omega), nI_1]
    simp only [cl_s, hf.1, hf.2]
    refine ⟨m, _, ⟨rfl, rfl⟩, ?_⟩
    have h10 : ¬ (1 : Int32) = 0 := by decide
    have h01 : ¬ (0 : Int32) = 1 := by decide
    rw [mkS]
    generalize mkS (fun f => bt S f && !(bt (mskP (A.F f)) b && (bt (valP (A.F f)) b != s))) k = X
    cases bt S k <;> cases bt (mskP (A.F k)) b <;> cases bt (valP (A.F k)) b <;> cases s <;> simp [h10, h01]
theorem ruse_ok {σ : Mem} {A : Ab} (h : RInv σ A) (S : Int32) {b : Nat} (hb : b < 12) : fX11_isUseful σ S (nI b) = some (if usf A.F A.n S b = true then 1 else 0, σ) := by
  have hn := h.forms.2.1
  unfold fX11_isUseful
  refine loopA (fX11_isUseful_L5 (fun (m8 : Mem) (x9 : Int32) => ck (isB x9) (some (x9, m8))) S (nI b)) (fX11_isUseful_L5_b (fun (m8 : Mem) (x9 : Int32) => ck (isB x9) (some (x9, m8))) S (nI b)) (fun _ _ _ _ => rfl) A.n
    (fun k m t => m = σ ∧ ∃ c : Bool, t = (if c = true then 1 else 0) ∧ (usf A.F A.n S b = (c || (List.range A.n).any (fun f => decide (k ≤ f) && (bt S f && bt (mskP (A.F f)) b)))))
    (fun r => r = some (if usf A.F A.n S b = true then 1 else 0, σ)) ?_ ?_ 5000 0 σ 0 (by omega) (by omega) ⟨rfl, false, rfl, by rw [any_0]; simp [usf]⟩
  · rintro m t rec ⟨rfl, c, rfl, e⟩
    unfold fX11_isUseful_L5_b
    rw [h.forms.1, if_neg (nI_nlt (Nat.le_refl _) (by omega))]
    rw [any_end, Bool.or_false] at e
    rw [e]
    cases c <;> rfl
  · rintro k m t rec hk ⟨rfl, c, rfl, e⟩
    right
    have hI := inb_nI (show k < 12 by omega) (show 12 < 2 ^ 31 by decide)
    have hf := (h.forms.2.2 k hk).1.2.2.2.1
    unfold fX11_isUseful_L5_b fX11_maskOf
    simp only [ck_t hI, cl_s, lt_e, ix_nI (show k < 2 ^ 31 by omega), hf.1]
    rw [h.forms.1, if_pos (nI_lt hk (by omega)), has_ok m _ (show k < 32 by omega), cl_s, has_ok m _ (show b < 32 by omega), cl_s, nI_1]
    simp only [hf.1]
    rw [any_from hk] at e
    refine ⟨m, _, ⟨rfl, (c || (bt S k && bt (mskP (A.F k)) b)), rfl, by rw [e, Bool.or_assoc]⟩, ?_⟩
    cases c <;> cases bt S k <;> cases bt (mskP (A.F k)) b <;> rfl
