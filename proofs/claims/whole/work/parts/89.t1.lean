/-! ===== texts: a form is filled, in the class ===== -/
theorem dsc_snoc {p q : Nat → Bool} {b : Nat} (hq : ∀ x, q x = (p x || decide (x = b))) (hp : ∀ x, p x = true → b < x) : ∀ n, b < n → dsc q n = dsc p n ++ [b]
  | 0, h => by omega
  | n + 1, h => by
    have hnil : ∀ m, m ≤ b → dsc p m = [] ∧ dsc q m = [] := by
      intro m
      induction m with
      | zero => intro _; exact ⟨rfl, rfl⟩
      | succ m ih =>
        intro hm
        have h1 : p m = false := by
          cases hx : p m with
          | false => rfl
          | true => have := hp m hx; omega
        have h2 : q m = false := by
          rw [hq, h1]
          have : ¬ m = b := by omega
          simp [this]
        rw [dsc, dsc, h1, h2]
        exact ih (by omega)
    by_cases e : n = b
    · subst e
      have h1 : p n = false := by
        cases hx : p n with
        | false => rfl
        | true => have := hp n hx; omega
      have h2 : q n = true := by rw [hq]; simp
      rw [dsc, dsc, if_pos h2, if_neg (by rw [h1]; decide), (hnil n (Nat.le_refl n)).1, (hnil n (Nat.le_refl n)).2]
      rfl
    · have ih := dsc_snoc hq hp n (by omega)
      have h3 : q n = p n := by rw [hq]; simp [e]
      rw [dsc, dsc, h3]
      by_cases hx : p n = true
      · rw [if_pos hx, if_pos hx, ih]; rfl
      · rw [if_neg hx, if_neg hx, ih]
theorem addBit_ok {σ : Mem} {k : Nat} {p : Nat → Bool} {sg : Bool} (h : CField σ k p sg) {b : Nat} (hb : b < 12) (hp : ∀ x, p x = true → b < x) (h8 : cnt p 12 < 8) :
    ∃ σ', fX2_addBit k σ (nI b) = some (1, σ') ∧ CField σ' k (fun x => p x || decide (x = b)) sg ∧ ∀ q, q ≠ k → q ≠ k + 1 → σ' q = σ q := by
  obtain ⟨h0, h2, h3, h1, hl⟩ := h
  have hpb : p b = false := by
    cases hx : p b with
    | false => rfl
    | true => have := hp b hx; omega
  have hcnt : cnt (fun x => p x || decide (x = b)) 12 = cnt p 12 + 1 := by rw [cnt_ins (p := p) (q := fun x => p x || decide (x = b)) (l := b) hpb (fun _ => rfl), if_pos hb]
  have hd := dsc_snoc (p := p) (q := fun x => p x || decide (x = b)) (b := b) (fun _ => rfl) hp 12 hb
  have hne : k + 1 ≠ k := by omega
  unfold fX2_addBit
  rw [h2, if_pos (show nI (cnt p 12) < 8 from nI_lt (b := 8) h8 (by decide)), ck_t (inb_nI h8 (by decide)), lt_e, lt_e, lt_e, ix_nI (by omega), sto_ne (show k ≠ k + 1 by omega), h2, nI_1]
  refine ⟨_, rfl, ⟨?_, ?_, ?_, fun i hi => ?_, by rw [hcnt]; omega⟩, fun q a c => by rw [sto_ne a, sto_ne a, sto_ne c]⟩
  · rw [sto_nj (by decide), sto_nj (by decide), sto_ne (by omega)]; exact h0
  · rw [sto_nj (by decide), sto_eq, hcnt]
  · rw [sto_eq, sto_nj (by decide), sto_ne (by omega), h3]
    apply bt_ext
    intro x hx
    rw [bt_or, bt_one (by omega), bt_mkS _ (by decide), bt_mkS _ (by decide)]
    by_cases e : x = b
    · subst e; simp [hb]
    · simp [e]
  · rw [sto_ne hne, sto_ne hne]
    have hlen : (dsc p 12).length = cnt p 12 := dsc_len p 12
    have hget : (dsc (fun x => p x || decide (x = b)) 12)[i]'hi = (dsc p 12 ++ [b])[i]'(by rw [← hd]; exact hi) := by simp only [hd]
    rw [hget]
    have hi2 : i < (dsc p 12).length + 1 := by rw [hd, List.length_append] at hi; exact hi
    by_cases e : i < (dsc p 12).length
    · rw [sto_nj (by omega), List.getElem_append_left e]; exact h1 i e
    · have : i = (dsc p 12).length := by omega
      subst this
      rw [show sto σ (k + 1) (cnt p 12) (nI b) (k + 1) (dsc p 12).length = nI b by rw [hlen, sto_eq]]; simp
theorem addBit_no {σ : Mem} {k : Nat} {p : Nat → Bool} {sg : Bool} (h : CField σ k p sg) (h8 : ¬ cnt p 12 < 8) (b : Int32) : fX2_addBit k σ b = some (0, σ) := by
  have hl := h.2.2.2.2
  unfold fX2_addBit
  rw [h.2.1, if_neg (show ¬ nI (cnt p 12) < 8 from nI_nlt (b := 8) (by omega) (by omega))]
/-- a form of which k signs are read -/
def CPk (σ : Mem) (k0 : Nat) (P : Nat → Nat) (k : Nat) : Prop :=
  σ k0 2 = mkS (fun b => (P b == 48 || P b == 49) && decide (12 ≤ b + k)) 12 ∧ σ k0 3 = mkS (fun b => P b == 49 && decide (12 ≤ b + k)) 12 ∧ (∀ l, l < 8 → CField σ (k0 + 1 + 5 + 2 * l) (fpk P k l) (decide (3 < l))) ∧ σ k0 6 = nI (ordL P k).length ∧ ∀ i (h : i < (ordL P k).length), σ (k0 + 2) i = nI (ordL P k)[i]
/-- what a pattern leaves as it is -/
abbrev FrP (k0 : Nat) (σ σ' : Mem) : Prop := (∀ q, q < k0 ∨ k0 + 22 ≤ q → σ' q = σ q) ∧ (∀ j, j ≠ 2 → j ≠ 3 → j ≠ 6 → σ' k0 j = σ k0 j) ∧ ∀ q, k0 + 3 ≤ q → q < k0 + 6 → σ' q = σ q
theorem mk_new {P : Nat → Nat} {g : Nat → Bool} {k : Nat} (hk : k < 12) : mkS (fun b => g (P b) && decide (12 ≤ b + (k + 1))) 12 = mkS (fun b => g (P b) && decide (12 ≤ b + k)) 12 ||| (if g (P (11 - k)) = true then 1 <<< (nI (11 - k) &&& 31) else 0) := by
  apply bt_ext
  intro x hx
  rw [bt_or, bt_mkS _ (by decide), bt_mkS _ (by decide)]
  by_cases e : x = 11 - k
  · subst e
    have h1 : 11 - k < 12 := by omega
    have h2 : 12 ≤ 11 - k + (k + 1) := by omega
    have h3 : ¬ 12 ≤ 11 - k + k := by omega
    by_cases c : g (P (11 - k)) = true
    · rw [if_pos c, bt_one (by omega)]; simp [h1, h2, c]
    · rw [if_neg c, bt_0]
      simp [c]
  · have h2 : (12 ≤ x + (k + 1)) ↔ (12 ≤ x + k) := by omega
    by_cases c : g (P (11 - k)) = true
    · rw [if_pos c, bt_one (by omega)]; simp [e, h2]
    · rw [if_neg c, bt_0]; simp [h2]
theorem ordL_none {P : Nat → Nat} {k : Nat} (h : lof (P (11 - k)) = none) : ordL P (k + 1) = ordL P k := by rw [ordL, h]
theorem ordL_in {P : Nat → Nat} {k l : Nat} (h : lof (P (11 - k)) = some l) (hm : l ∈ ordL P k) : ordL P (k + 1) = ordL P k := by rw [ordL, h]; simp only [hm, if_true]
theorem ordL_out {P : Nat → Nat} {k l : Nat} (h : lof (P (11 - k)) = some l) (hm : ¬ l ∈ ordL P k) : ordL P (k + 1) = ordL P k ++ [l] := by rw [ordL, h]; simp only [hm, if_false]
theorem ordL_fpk {P : Nat → Nat} {k l : Nat} (hk : k ≤ 12) (hl : l < 8) : l ∈ ordL P k ↔ 0 < cnt (fpk P k l) 12 := by
  rw [ordL_mem P k hk, cnt_pos]
  constructor
  · rintro ⟨b, h1, h2, h3⟩
    exact ⟨b, h1, by unfold fpk; rw [(fp_lof hl).mpr h3]; simpa using h2⟩
  · rintro ⟨b, h1, h2⟩
    unfold fpk at h2
    simp only [Bool.and_eq_true, decide_eq_true_eq] at h2
    exact ⟨b, h1, h2.2, (fp_lof hl).mp h2.1⟩
theorem ordL_8 (P : Nat → Nat) {k : Nat} (hk : k ≤ 12) : (ordL P k).length ≤ 8 := by rw [ordL_cnt _ _ hk]; exact cnt_le _ 8
theorem addSign_ok {σ : Mem} {k0 : Nat} {t : Tp} (ht : Tok t) {p k : Nat} (hk : k < 12) (h : CPk σ k0 (pP t p) k) :
    ∃ σ', fX3_addSign k0 σ (bA t (p + k)) (nI (11 - k)) = some (if sgOk t p k = true then 1 else 0, σ') ∧ FrP k0 σ σ' ∧ (sgOk t p k = true → CPk σ' k0 (pP t p) (k + 1)) ∧ ∀ l, l < 8 → σ' (k0 + 1 + 5 + 2 * l) 0 = if decide (3 < l) = true then 1 else 0 := by
  obtain ⟨a1, a2, a3, a4, a5⟩ := h
  have hPk := pP_k (t := t) (p := p) hk
  have e46 := bA_eq ht (c := 46) (by decide) (p + k)
  have e48 := bA_eq ht (c := 48) (by decide) (p + k)
  have e49 := bA_eq ht (c := 49) (by decide) (p + k)
  rw [show nI 46 = (46 : Int32) from rfl] at e46
  rw [show nI 48 = (48 : Int32) from rfl] at e48
  rw [show nI 49 = (49 : Int32) from rfl] at e49
  have hfr : FrP k0 σ σ := ⟨fun _ _ => rfl, fun _ _ _ _ => rfl, fun _ _ _ => rfl⟩
  unfold fX3_addSign
  simp only [lt_e]
  by_cases c46 : isC t 46 (p + k) = true
  · have hx := isC_lt c46
    have hno : lof (t.2 (p + k)) = none := by rw [hx.2]; rfl
    have hok : sgOk t p k = true := by unfold sgOk; rw [hno, hx.2]; simp [sgM, hx.1]
    rw [if_pos (e46.mpr c46), if_pos hok]
    refine ⟨σ, rfl, hfr, fun _ => ⟨?_, ?_, fun l hl => ?_, ?_⟩, fun l hl => (a3 l hl).1⟩
    · rw [mk_new (g := fun c => c == 48 || c == 49) hk, hPk, hx.2, a1]; exact (Int32.or_zero).symm
    · rw [mk_new (g := fun c => c == 49) hk, hPk, hx.2, a2]; exact (Int32.or_zero).symm
    · rw [fpk_same hk (by
        cases hq : fp (pP t p) l (11 - k) with
        | false => rfl
        | true => have := (fp_lof hl).mp hq; rw [hPk, hno] at this; cases this)]
      exact a3 l hl
    · rw [ordL_none (by rw [hPk]; exact hno)]
      exact ⟨a4, a5⟩
  rw [if_neg (fun z => c46 (e46.mp z))]
  -- a fixed bit
  have fixed : ∀ d : Nat, d ≤ 1 → isC t (48 + d) (p + k) = true → bA t (p + k) - 48 = nI d → ∃ σ', some ((1 : Int32), sto (sto σ k0 2 (σ k0 2 ||| 1 <<< (nI (11 - k) &&& 31))) k0 3 (sto σ k0 2 (σ k0 2 ||| 1 <<< (nI (11 - k) &&& 31)) k0 3 ||| (bA t (p + k) - 48) <<< (nI (11 - k) &&& 31))) = some (if sgOk t p k = true then 1 else 0, σ') ∧ FrP k0 σ σ' ∧ (sgOk t p k = true → CPk σ' k0 (pP t p) (k + 1)) ∧ ∀ l, l < 8 → σ' (k0 + 1 + 5 + 2 * l) 0 = if decide (3 < l) = true then 1 else 0 := by
    intro d hd hc hv
    have hx := isC_lt hc
    have hno : lof (t.2 (p + k)) = none := by
      rw [hx.2]
      have : d = 0 ∨ d = 1 := by omega
      rcases this with rfl | rfl <;> rfl
    have hok : sgOk t p k = true := by
      unfold sgOk
      rw [hno, hx.2]
      have : d = 0 ∨ d = 1 := by omega
      rcases this with rfl | rfl <;> simp [sgM, hx.1]
    rw [hv, if_pos hok, sto_nj (by decide)]
    have n2 : k0 + 2 ≠ k0 := by omega
    refine ⟨_, rfl, ⟨fun q hq => by rw [sto_ne (by omega), sto_ne (by omega)], fun j x y z => by rw [sto_nj y, sto_nj x], fun q x y => by rw [sto_ne (by omega), sto_ne (by omega)]⟩, fun _ => ⟨?_, ?_, fun l hl => ?_, ?_⟩, fun l hl => by rw [sto_ne (by omega), sto_ne (by omega)]; exact (a3 l hl).1⟩
    · rw [sto_nj (by decide), sto_eq, mk_new (g := fun c => c == 48 || c == 49) hk, hPk, hx.2, a1]
      have : d = 0 ∨ d = 1 := by omega
      rcases this with rfl | rfl <;> rfl
    · rw [sto_eq, mk_new (g := fun c => c == 49) hk, hPk, hx.2, a2]
      have : d = 0 ∨ d = 1 := by omega
      rcases this with rfl | rfl
      · congr 1
        show (if false = true then (1 : Int32) else 0) <<< _ = _
        rw [shlb (by omega)]; rfl
      · rfl
    · rw [fpk_same hk (by
        cases hq : fp (pP t p) l (11 - k) with
        | false => rfl
        | true => have := (fp_lof hl).mp hq; rw [hPk, hno] at this; cases this)]
      exact (a3 l hl).congr (by rw [sto_ne (by omega), sto_ne (by omega)]) (by rw [sto_ne (by omega), sto_ne (by omega)])
    · rw [ordL_none (by rw [hPk]; exact hno), sto_nj (by decide), sto_nj (by decide), sto_ne n2, sto_ne n2]
      exact ⟨a4, a5⟩
  by_cases c48 : isC t 48 (p + k) = true
  · rw [if_pos (e48.mpr c48)]
    exact fixed 0 (by omega) c48 (by rw [e48.mpr c48]; rfl)
  rw [if_neg (fun z => c48 (e48.mp z))]
  by_cases c49 : isC t 49 (p + k) = true
  · rw [if_pos (e49.mpr c49)]
    exact fixed 1 (by omega) c49 (by rw [e49.mpr c49]; rfl)
  rw [if_neg (fun z => c49 (e49.mp z)), cletA σ ht, cl_s]
  cases hl : lofA t (p + k) with
  | none =>
    have hok : ¬ sgOk t p k = true := by
      intro z
      unfold sgOk at z
      simp only [Bool.and_eq_true, decide_eq_true_eq] at z
      have hno : lof (t.2 (p + k)) = none := by unfold lofA at hl; rw [if_pos z.1] at hl; exact hl
      rw [hno] at z
      have z2 := z.2
      simp only [sgM, Bool.or_eq_true, beq_iff_eq] at z2
      rcases z2 with y | y | y
      · exact c48 (by unfold isC; simp [z.1, y])
      · exact c49 (by unfold isC; simp [z.1, y])
      · exact c46 (by unfold isC; simp [z.1, y])
    rw [if_pos (show ansO none = -1 from rfl), if_neg hok]
    exact ⟨σ, rfl, hfr, fun z => absurd z hok, fun l hl => (a3 l hl).1⟩
  | some l =>
    have h8 := lofA_8 hl
    have hal : ansO (some l) = nI l := rfl
    have hlof : lof (pP t p (11 - k)) = some l := by rw [hPk]; unfold lofA at hl; rw [if_pos h8.2.1] at hl; exact hl
    have hfp : fp (pP t p) l (11 - k) = true := (fp_lof h8.1).mpr hlof
    have hF := a3 l h8.1
    have hin := inb_nI h8.1 (show 8 < 2 ^ 31 by decide)
    have hb12 : 11 - k < 12 := by omega
    have hsg : sgOk t p k = decide (cnt (fpk (pP t p) k l) 12 < 8) := by
      unfold sgOk
      have : lof (t.2 (p + k)) = some l := by rw [← hPk]; exact hlof
      rw [this]
      simp [sgM, h8.2.1]
    have hle := hF.2.2.2.2
    have g0 : ∀ l', l' < 8 → l' ≠ l → fp (pP t p) l' (11 - k) = false := by
      intro l' hl' hne
      cases hq : fp (pP t p) l' (11 - k) with
      | false => rfl
      | true =>
        have := (fp_lof hl').mp hq
        rw [hlof] at this
        cases this
        exact absurd rfl hne
    have n48 : ¬ (t.2 (p + k) = 48 ∨ t.2 (p + k) = 49) := by
      rintro (y | y)
      · exact c48 (by unfold isC; simp [h8.2.1, y])
      · exact c49 (by unfold isC; simp [h8.2.1, y])
    have m1 : mkS (fun b => (pP t p b == 48 || pP t p b == 49) && decide (12 ≤ b + (k + 1))) 12 = mkS (fun b => (pP t p b == 48 || pP t p b == 49) && decide (12 ≤ b + k)) 12 := by
      rw [mk_new (g := fun c => c == 48 || c == 49) hk, hPk, if_neg (by simpa using n48)]; exact Int32.or_zero
    have m2 : mkS (fun b => pP t p b == 49 && decide (12 ≤ b + (k + 1))) 12 = mkS (fun b => pP t p b == 49 && decide (12 ≤ b + k)) 12 := by
      rw [mk_new (g := fun c => c == 49) hk, hPk, if_neg (by simpa using fun y => n48 (Or.inr y))]; exact Int32.or_zero
    -- the bit is added, in a memory that has the letter in the line
    have fin : ∀ m, FrP k0 σ m → m k0 2 = σ k0 2 → m k0 3 = σ k0 3 → (∀ l', l' < 8 → CField m (k0 + 1 + 5 + 2 * l') (fpk (pP t p) k l') (decide (3 < l'))) → (cnt (fpk (pP t p) k l) 12 < 8 → m k0 6 = nI (ordL (pP t p) (k + 1)).length ∧ ∀ i (h : i < (ordL (pP t p) (k + 1)).length), m (k0 + 2) i = nI (ordL (pP t p) (k + 1))[i]) →
        ∃ σ', (ck (inb (nI l) 8) <| cl (fX2_addBit (k0 + 1 + 5 + 2 * ix (nI l)) m (nI (11 - k))) fun r9 m8 => ck (isB r9) (some (r9, m8))) = some (if sgOk t p k = true then 1 else 0, σ') ∧ FrP k0 σ σ' ∧ (sgOk t p k = true → CPk σ' k0 (pP t p) (k + 1)) ∧ ∀ l, l < 8 → σ' (k0 + 1 + 5 + 2 * l) 0 = if decide (3 < l) = true then 1 else 0 := by
      intro m f1 f2 f3 f4 f5
      rw [ck_t hin, ix_nI (by omega), hsg]
      by_cases c : cnt (fpk (pP t p) k l) 12 < 8
      · obtain ⟨s, b1, b2, b3⟩ := addBit_ok (f4 l h8.1) hb12 (fun x hx => fpk_gt hk hx) c
        rw [b1, cl_s, ck_t (by decide), if_pos (by simpa using c)]
        refine ⟨s, rfl, ⟨fun q hq => by rw [b3 q (by omega) (by omega)]; exact f1.1 q hq, fun j x y z => by rw [b3 k0 (by omega) (by omega)]; exact f1.2.1 j x y z, fun q x y => by rw [b3 q (by omega) (by omega)]; exact f1.2.2 q x y⟩, fun _ => ⟨?_, ?_, fun l' hl' => ?_, ?_⟩, fun l' hl' => ?_⟩
        · rw [b3 k0 (by omega) (by omega), f2, a1, m1]
        · rw [b3 k0 (by omega) (by omega), f3, a2, m2]
        · by_cases e : l' = l
          · subst e; rw [fpk_new hk hfp]; exact b2
          · rw [fpk_same hk (g0 l' hl' e)]
            exact (f4 l' hl').congr (b3 _ (by omega) (by omega)) (b3 _ (by omega) (by omega))
        · rw [b3 k0 (by omega) (by omega), b3 (k0 + 2) (by omega) (by omega)]
          exact f5 c
        · by_cases e : l' = l
          · subst e; exact b2.1
          · rw [b3 _ (by omega) (by omega)]; exact (f4 l' hl').1
      · rw [addBit_no (f4 l h8.1) c, cl_s, ck_t (by decide), if_neg (by simpa using c)]
        exact ⟨m, rfl, f1, fun z => absurd (by simpa using z) c, fun l' hl' => (f4 l' hl').1⟩
    rw [hal, if_neg (fun z => absurd (nI_pos' (show l < 2 ^ 31 by omega)) (by rw [z]; decide)), ck_t hin, ix_nI (by omega), hF.2.1]
    by_cases c0 : cnt (fpk (pP t p) k l) 12 = 0
    · have hnm : ¬ l ∈ ordL (pP t p) k := fun z => by have := (ordL_fpk (by omega) h8.1).mp z; omega
      have ho := ordL_out hlof hnm
      have hlen : (ordL (pP t p) k).length + 1 ≤ 8 := by
        have := ordL_8 (pP t p) (show k + 1 ≤ 12 by omega)
        rw [ho, List.length_append] at this; exact this
      rw [if_pos (show nI (cnt (fpk (pP t p) k l) 12) = 0 by rw [c0]; rfl), a4, if_pos (show nI (ordL (pP t p) k).length < 8 from nI_lt (b := 8) (by omega) (by decide)), ck_t (inb_nI (show (ordL (pP t p) k).length < 8 by omega) (by decide)), ix_nI (by omega), sto_ne (show k0 ≠ k0 + 2 by omega), a4, nI_1]
      have n2 : k0 + 2 ≠ k0 := by omega
      have := fin (sto (sto σ (k0 + 2) (ordL (pP t p) k).length (nI l)) k0 6 (nI ((ordL (pP t p) k).length + 1))) ⟨fun q hq => by rw [sto_ne (by omega), sto_ne (by omega)], fun j x y z => by rw [sto_nj z, sto_ne (by omega)], fun q x y => by rw [sto_ne (by omega), sto_ne (by omega)]⟩ (by rw [sto_nj (by decide), sto_ne (by omega)]) (by rw [sto_nj (by decide), sto_ne (by omega)]) (fun l' hl' => (a3 l' hl').congr (by rw [sto_ne (by omega), sto_ne (by omega)]) (by rw [sto_ne (by omega), sto_ne (by omega)])) (fun _ => ⟨by rw [sto_eq, ho, List.length_append]; rfl, fun i hi => by
        rw [sto_ne n2]
        have hget : (ordL (pP t p) (k + 1))[i] = (ordL (pP t p) k ++ [l])[i]'(by rw [← ho]; exact hi) := by simp only [ho]
        rw [hget]
        by_cases e : i < (ordL (pP t p) k).length
        · rw [sto_nj (by omega), List.getElem_append_left e]; exact a5 i e
        · have : i = (ordL (pP t p) k).length := by rw [ho, List.length_append] at hi; simp at hi; omega
          subst this
          rw [sto_eq]; simp⟩)
      rw [ix_nI (by omega)] at this
      exact this
    · have hmm : l ∈ ordL (pP t p) k := (ordL_fpk (by omega) h8.1).mpr (by omega)
      rw [if_neg (nI_ne0 (by omega) (by omega))]
      have := fin σ hfr rfl rfl a3 (fun _ => by rw [ordL_in hlof hmm]; exact ⟨a4, a5⟩)
      rw [ix_nI (by omega)] at this
      exact this
