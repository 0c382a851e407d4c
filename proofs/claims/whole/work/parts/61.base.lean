/-! ===== parts of the invariants; refusals ===== -/
theorem CSg.congr {σ σ' : Mem} (h : CSg σ) (hq : ∀ q, 11 ≤ q → q < 275 → σ' q = σ q) : CSg σ' := fun i l hi hl => by rw [hq _ (by omega) (by omega)]; exact h i l hi hl
theorem CTape.congr {σ σ' : Mem} {c : Nat} {tp : Nat → Nat} (h : CTape σ c tp) (h1 : σ' 281 = σ 281) (h2 : σ' 282 = σ 282) : CTape σ' c tp := by
  unfold CTape at *
  rw [h1, h2]; exact h
theorem CLine.congr {σ σ' : Mem} {c : Nat} {tp : Nat → Int32} (h : CLine σ c tp) (h1 : σ' 1 = σ 1) (h2 : σ' 2 = σ 2) : CLine σ' c tp := by
  unfold CLine at *
  rw [h1, h2]; exact h
theorem CPast.congr {σ σ' : Mem} {c : Nat} {ps : Nat → Dd} (h : CPast σ c ps) (h1 : σ' 0 12 = σ 0 12) (h2 : σ' 0 13 = σ 0 13) (hq : ∀ q, 298 ≤ q → q < 362 → σ' q = σ q) : CPast σ' c ps := by
  obtain ⟨a, b, p0, x, d, e⟩ := h
  exact ⟨h2.trans a, b, p0, x, h1.trans d, fun t ht => ⟨(e t ht).1.congr (fun q x y => hq q (by omega) (by omega)), (e t ht).2⟩⟩
theorem CKept.congr {σ σ' : Mem} {n : Nat} {kp : Option (Nat × Dd)} (h : CKept σ n kp) (h1 : σ' 0 10 = σ 0 10) (hq : ∀ q, 3 ≤ q → q < 7 → σ' q = σ q) : CKept σ' n kp := by
  cases kp with
  | none => exact h1.trans h
  | some p =>
    obtain ⟨a, b, c, d⟩ := h
    exact ⟨h1.trans a, b, c.congr (fun q x y => hq q (by omega) (by omega)), d⟩
theorem RTape.congr {σ σ' : Mem} {c : Nat} {tp : Nat → Nat} (h : RTape σ c tp) (h1 : σ' 362 13 = σ 362 13) (h2 : σ' 373 = σ 373) : RTape σ' c tp := by
  unfold RTape at *
  rw [h1, h2]; exact h
theorem RLine.congr {σ σ' : Mem} {c : Nat} {tp : Nat → Int32} (h : RLine σ c tp) (h1 : σ' 362 15 = σ 362 15) (h2 : σ' 374 = σ 374) : RLine σ' c tp := by
  unfold RLine at *
  rw [h1, h2]; exact h
theorem RPast.congr {σ σ' : Mem} {c : Nat} {ps : Nat → Dd} (h : RPast σ c ps) (h1 : σ' 362 18 = σ 362 18) (h2 : σ' 376 = σ 376) : RPast σ' c ps := by
  obtain ⟨a, b, d⟩ := h
  exact ⟨h1.trans a, b, fun t ht => ⟨(d t ht).1.congr h2, (d t ht).2⟩⟩
abbrev Hi (σ σ' : Mem) : Prop := ∀ k, 362 ≤ k → σ' k = σ k
abbrev Lo (σ σ' : Mem) : Prop := ∀ k, k < 362 → σ' k = σ k
theorem sto_ne {σ : Mem} {k j q : Nat} {v : Int32} (h : q ≠ k) : sto σ k j v q = σ q := by funext b; simp [sto_k, h]
theorem sto_nj {σ : Mem} {k j i : Nat} {v : Int32} (h : i ≠ j) : sto σ k j v k i = σ k i := by simp [sto_k, h]
theorem sto_eq {σ : Mem} {k j : Nat} {v : Int32} : sto σ k j v k j = v := by simp [sto_k]
def refA (A : Ab) (j : Nat) : Ab := (A.n, A.F, A.tc, A.tp, A.lc, A.ln, A.d, A.pc, A.past, A.kept, fun i => if i = j then A.rf i + 1 else A.rf i)
def bad (A : Ab) : Int32 × Ab := (-1001, refA A 0)
def bad2 (A : Ab) : Int32 × Ab := (-1002, refA A 1)
def bad3 (A : Ab) : Int32 × Ab := (-1003, refA A 2)
theorem CInv.refuse {σ : Mem} {A : Ab} (h : CInv σ A) (j : Nat) (hj : j < 3) : CInv (sto σ 8 j (σ 8 j + 1)) (refA A j) := by
  have hs : ∀ q, q ≠ 8 → sto σ 8 j (σ 8 j + 1) q = σ q := fun q hq => sto_ne hq
  exact ⟨h.mean.congr (fun q a b => hs q (by omega)), h.sg.congr (fun q a b => hs q (by omega)), h.thr.congr (fun q a b _ _ => hs q (by omega)), h.tape.congr (hs _ (by decide)) (hs _ (by decide)), h.line.congr (hs _ (by decide)) (hs _ (by decide)), ⟨h.now.1.congr (fun q a b => hs q (by omega)), h.now.2⟩, h.past.congr (by rw [hs 0 (by decide)]) (by rw [hs 0 (by decide)]) (fun q a b => hs q (by omega)), h.kept.congr (by rw [hs 0 (by decide)]) (fun q a b => hs q (by omega)), fun i hi => by
    by_cases e : i = j
    · subst e; rw [sto_eq, h.ref i hi]; simp [refA, Ab.rf]
    · rw [sto_nj e, h.ref i hi]; simp [refA, Ab.rf, e]⟩
theorem RInv.refuse {σ : Mem} {A : Ab} (h : RInv σ A) (j : Nat) (hj : j < 3) : RInv (sto σ 363 j (σ 363 j + 1)) (refA A j) := by
  have hs : ∀ q, q ≠ 363 → sto σ 363 j (σ 363 j + 1) q = σ q := fun q hq => sto_ne hq
  have ho : ∀ i, sto σ 363 j (σ 363 j + 1) 362 i = σ 362 i := fun i => by rw [hs 362 (by decide)]
  exact ⟨h.forms.congr (ho 8) (fun q a b => hs q (by omega)), h.lk.congr (ho _) (hs _ (by decide)) (hs _ (by decide)), h.tape.congr (ho _) (hs _ (by decide)), h.line.congr (ho _) (hs _ (by decide)), ⟨h.now.1.congr (hs _ (by decide)), h.now.2⟩, h.past.congr (ho _) (hs _ (by decide)), h.kept.congr (ho _) (ho _) (fun q a b => hs q (by omega)), fun i hi => by
    by_cases e : i = j
    · subst e; rw [sto_eq, h.ref i hi]; simp [refA, Ab.rf]
    · rw [sto_nj e, h.ref i hi]; simp [refA, Ab.rf, e]⟩
theorem within_ok (σ : Mem) (a lo hi : Int32) : fX10_within σ a lo hi = some (if lo ≤ a ∧ a ≤ hi then 1 else 0, σ) := by
  unfold fX10_within
  by_cases h : a < lo
  · rw [if_pos h, if_neg (fun c => absurd h (by rw [Int32.not_lt]; exact c.1))]
  · rw [if_neg h]
    rw [Int32.not_lt] at h
    by_cases h2 : hi < a
    · rw [if_pos h2, if_neg (fun c => absurd h2 (by rw [Int32.not_lt]; exact c.2))]
    · rw [if_neg h2]
      rw [Int32.not_lt] at h2
      rw [if_pos ⟨h, h2⟩]
theorem isInI (σ : Mem) (a : Int32) (b c : Int64) (lo hi : Int32) (hb : b = lo.toInt64) (hc : c = hi.toInt64) : fX11_isIn σ a.toInt64 b c = some (if lo ≤ a ∧ a ≤ hi then 1 else 0, σ) := by
  rw [isIn_ok, hb, hc, Int32.toInt_toInt64, Int32.toInt_toInt64, Int32.toInt_toInt64]
  simp only [Int32.le_iff_toInt_le]
theorem crefuse {σ : Mem} {A : Ab} (h : CInv σ A) (j : Nat) (hj : j < 3) : ∃ σ', fX10_refuse σ (-1001 - nI j) = some (-1001 - nI j, σ') ∧ CInv σ' (refA A j) ∧ Hi σ σ' := by
  refine ⟨_, ?_, h.refuse j hj, fun k hk => sto_ne (by omega)⟩
  unfold fX10_refuse
  have e : (-1001 : Int32) - (-1001 - nI j) = nI j := by grind
  rw [lt_e, within_ok, cl_s, e, if_pos (show 0 ≤ nI j ∧ nI j ≤ 2 from ⟨nI_pos' (by omega), nI_le (b := 2) (by omega) (by decide)⟩), if_neg (by decide), ck_t (inb_nI hj (by decide)), ck_t (inb_nI hj (by decide)), lt_e, ix_nI (by omega)]
theorem rrefuse {σ : Mem} {A : Ab} (h : RInv σ A) (j : Nat) (hj : j < 3) : ∃ σ', fX11_refuse σ (-1001 - nI j) = some (-1001 - nI j, σ') ∧ RInv σ' (refA A j) ∧ Lo σ σ' := by
  refine ⟨_, ?_, h.refuse j hj, fun k hk => sto_ne (by omega)⟩
  unfold fX11_refuse
  have e : (-1001 : Int32) - (-1001 - nI j) = nI j := by grind
  rw [e, ck_t (inb_nI hj (by decide)), ck_t (inb_nI hj (by decide)), lt_e, ix_nI (by omega)]
theorem cbad {σ : Mem} {A : Ab} (h : CInv σ A) : ∃ σ', (cl (fX10_refuse σ (-1001)) fun r m => some (r, m)) = some ((bad A).1, σ') ∧ CInv σ' (bad A).2 ∧ Hi σ σ' := by
  obtain ⟨s, a, b⟩ := crefuse h 0 (by decide)
  rw [show (-1001 : Int32) - nI 0 = -1001 from rfl] at a
  exact ⟨s, by rw [a, cl_s]; rfl, b⟩
theorem cbad2 {σ : Mem} {A : Ab} (h : CInv σ A) : ∃ σ', (cl (fX10_refuse σ (-1002)) fun r m => some (r, m)) = some ((bad2 A).1, σ') ∧ CInv σ' (bad2 A).2 ∧ Hi σ σ' := by
  obtain ⟨s, a, b⟩ := crefuse h 1 (by decide)
  rw [show (-1001 : Int32) - nI 1 = -1002 from rfl] at a
  exact ⟨s, by rw [a, cl_s]; rfl, b⟩
theorem cbad3 {σ : Mem} {A : Ab} (h : CInv σ A) : ∃ σ', (cl (fX10_refuse σ (-1003)) fun r m => some (r, m)) = some ((bad3 A).1, σ') ∧ CInv σ' (bad3 A).2 ∧ Hi σ σ' := by
  obtain ⟨s, a, b⟩ := crefuse h 2 (by decide)
  rw [show (-1001 : Int32) - nI 2 = -1003 from rfl] at a
  exact ⟨s, by rw [a, cl_s]; rfl, b⟩
theorem rbad {σ : Mem} {A : Ab} (h : RInv σ A) : ∃ σ', (cl (fX11_refuse σ (-1001)) fun r m => some (r, m)) = some ((bad A).1, σ') ∧ RInv σ' (bad A).2 ∧ Lo σ σ' := by
  obtain ⟨s, a, b⟩ := rrefuse h 0 (by decide)
  rw [show (-1001 : Int32) - nI 0 = -1001 from rfl] at a
  exact ⟨s, by rw [a, cl_s]; rfl, b⟩
theorem rbad2 {σ : Mem} {A : Ab} (h : RInv σ A) : ∃ σ', (cl (fX11_refuse σ (-1002)) fun r m => some (r, m)) = some ((bad2 A).1, σ') ∧ RInv σ' (bad2 A).2 ∧ Lo σ σ' := by
  obtain ⟨s, a, b⟩ := rrefuse h 1 (by decide)
  rw [show (-1001 : Int32) - nI 1 = -1002 from rfl] at a
  exact ⟨s, by rw [a, cl_s]; rfl, b⟩
theorem rbad3 {σ : Mem} {A : Ab} (h : RInv σ A) : ∃ σ', (cl (fX11_refuse σ (-1003)) fun r m => some (r, m)) = some ((bad3 A).1, σ') ∧ RInv σ' (bad3 A).2 ∧ Lo σ σ' := by
  obtain ⟨s, a, b⟩ := rrefuse h 2 (by decide)
  rw [show (-1001 : Int32) - nI 2 = -1003 from rfl] at a
  exact ⟨s, by rw [a, cl_s]; rfl, b⟩
theorem rng {a : Int32} {n : Nat} (h0 : 0 ≤ a) (h1 : a < nI n) (hn : n < 2 ^ 31) : ∃ i, i < n ∧ a = nI i := by
  rcases pk_ix a hn with h | h | h
  · exact absurd h (by rw [Int32.not_lt]; exact h0)
  · exact absurd h1 (by rw [Int32.not_lt]; exact h)
  · exact h
theorem rngL {a : Int32} {n : Nat} (h : 0 ≤ a ∧ a ≤ nI n) (hn : n + 1 < 2 ^ 31) : ∃ i, i ≤ n ∧ a = nI i := by
  obtain ⟨j, hj, e⟩ := nI_of (show ¬ a < 0 by rw [Int32.not_lt]; exact h.1)
  subst e
  exact ⟨j, (nI_leI hj (by omega)).mp h.2, rfl⟩
theorem tst (σ : Mem) (a b : Int32) : (if a < 0 then some ((0 : Int32), σ) else if a < b then some (1, σ) else some (0, σ)) = some (if 0 ≤ a ∧ a < b then 1 else 0, σ) := by
  by_cases h : a < 0
  · rw [if_pos h, if_neg (fun c => absurd h (by rw [Int32.not_lt]; exact c.1))]
  · rw [if_neg h]
    rw [Int32.not_lt] at h
    by_cases h2 : a < b
    · rw [if_pos h2, if_pos ⟨h, h2⟩]
    · rw [if_neg h2, if_neg (fun c => h2 c.2)]
theorem has4 {σ : Mem} {A : Ab} (h : CInv σ A) (a : Int32) : fX4_has σ a = some (if 0 ≤ a ∧ a < nI A.n then 1 else 0, σ) := by
  unfold fX4_has
  rw [h.mean.1.1]
  exact tst σ a _
theorem isForm_ok {σ : Mem} {A : Ab} (h : RInv σ A) (a : Int32) : fX11_isForm σ a = some (if 0 ≤ a ∧ a < nI A.n then 1 else 0, σ) := by
  unfold fX11_isForm
  rw [h.forms.1]
  exact tst σ a _
theorem if10 (c : Prop) [Decidable c] : ((if c then (1 : Int32) else 0) = 0) ↔ ¬ c := by
  by_cases h : c <;> simp [h]
theorem isB10 (c : Prop) [Decidable c] : isB (if c then (1 : Int32) else 0) = true := by
  by_cases h : c <;> simp [h, isB]
theorem le4095 {a : Int32} : (0 ≤ a ∧ a ≤ 4095) ↔ (0 ≤ a ∧ a < 4096) := by
  constructor
  · rintro ⟨h, g⟩
    obtain ⟨i, hi, e⟩ := rngL (n := 4095) ⟨h, g⟩ (by decide)
    subst e
    exact ⟨h, nI_lt (b := 4096) (by omega) (by decide)⟩
  · rintro ⟨h, g⟩
    obtain ⟨i, hi, e⟩ := rng (n := 4096) h g (by decide)
    subst e
    exact ⟨h, nI_le (b := 4095) (by omega) (by decide)⟩
theorem cword (σ : Mem) (a : Int32) : fX10_isWord σ a = some (if 0 ≤ a ∧ a ≤ 4095 then 1 else 0, σ) := by
  unfold fX10_isWord
  rw [within_ok, cl_s, ck_t (isB10 _)]
theorem rword (σ : Mem) (a : Int32) : fX11_isWord σ a = some (if 0 ≤ a ∧ a ≤ 4095 then 1 else 0, σ) := by
  unfold fX11_isWord
  rw [tst]
  simp only [le4095]
theorem ccell (σ : Mem) (a : Int32) : fX10_isCell σ a = some (if 0 ≤ a ∧ a ≤ 31 then 1 else 0, σ) := by
  unfold fX10_isCell
  rw [within_ok, cl_s, ck_t (isB10 _)]
theorem rcell (σ : Mem) (a : Int32) : fX11_isCell σ a = some (if 0 ≤ a ∧ a ≤ 31 then 1 else 0, σ) := by
  unfold fX11_isCell
  rw [tst]
  have : (0 ≤ a ∧ a < 32) ↔ (0 ≤ a ∧ a ≤ 31) := by
    constructor
    · rintro ⟨h, g⟩
      obtain ⟨i, hi, e⟩ := rng (n := 32) h g (by decide)
      subst e
      exact ⟨h, nI_le (b := 31) (by omega) (by decide)⟩
    · rintro ⟨h, g⟩
      obtain ⟨i, hi, e⟩ := rngL (n := 31) ⟨h, g⟩ (by decide)
      subst e
      exact ⟨h, nI_lt (b := 32) (by omega) (by decide)⟩
  simp only [this]
