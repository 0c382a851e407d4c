/-! ===== many, covers, next, clash, odd, holders: the class ===== -/
abbrev isMn (n : Nat) (a : Int32) : Prop := (0 ≤ a ∧ a < nI n) ∨ a = 12 ∨ a = 13
theorem isMn_of {n : Nat} {a : Int32} (hn : n ≤ 12) (h : isMn n a) : ∃ m, m < 14 ∧ a = nI m ∧ (m < n ∨ m = 12 ∨ m = 13) := by
  rcases h with h | h | h
  · obtain ⟨i, hi, e⟩ := rng h.1 h.2 (by omega)
    exact ⟨i, by omega, e, Or.inl hi⟩
  · exact ⟨12, by omega, h, by omega⟩
  · exact ⟨13, by omega, h, by omega⟩
theorem cmn {σ : Mem} {A : Ab} (h : CInv σ A) (a : Int32) : fX10_isMeaning σ a = some (if isMn A.n a then 1 else 0, σ) := by
  unfold fX10_isMeaning isMn
  rw [has4 h, cl_s, lt_e]
  by_cases c : 0 ≤ a ∧ a < nI A.n
  · rw [if_pos c, if_neg (by decide), if_pos (Or.inl c)]
  · rw [if_neg c, if_pos rfl]
    by_cases d : a = 12
    · rw [if_pos d, if_pos (Or.inr (Or.inl d))]
    · rw [if_neg d]
      by_cases e : a = 13
      · rw [if_pos e, if_pos (Or.inr (Or.inr e))]
      · rw [if_neg e, if_neg (fun z => by rcases z with z | z | z; exact c z; exact d z; exact e z)]
def gMany (a : Int32) (A : Ab) : Int32 × Ab := if isMn A.n a then (nI (cwN A.F A.n (ix a) 4096), A) else bad A
theorem cs_many (a : Int32) : CS (fun σ => fX10_many σ a) (gMany a) := by
  intro σ A h
  show ∃ σ', fX10_many σ a = _ ∧ _
  unfold fX10_many gMany
  rw [cmn h, cl_s]
  by_cases c : isMn A.n a
  case neg => rw [if_neg c, if_neg c, if_pos rfl]; exact cbad h
  obtain ⟨m, hm, rfl, _⟩ := isMn_of h.mean.1.2.1 c
  obtain ⟨s, a1, a2, a3, a4⟩ := goThrough_ok h
  rw [if_pos c, if_neg (by decide), if_pos c, a1, cl_s, ck_t (inb_nI hm (by decide)), ix_nI (by omega), a4.1 m hm]
  exact ⟨s, rfl, a2, a3⟩
/-- sets of 64 -/
def b64 (k : Nat) : Int64 := (1 : Int64) <<< ((nI k).toInt64 &&& 63)
def mkL (p : Nat → Bool) : Nat → Int64
  | 0 => 0
  | k + 1 => mkL p k ||| (if p k then b64 k else 0)
def gCovers (a p : Int32) (A : Ab) : Int64 × Ab := if (0 ≤ a ∧ a < nI A.n) ∧ (0 ≤ p ∧ p ≤ 63) then (mkL (fun k => decide (mnN A.F A.n (nI (64 * ix p + k)) = ix a)) 64, A) else (0, A)
theorem e64 (i j : Nat) : (64 : Int32) * nI i + nI j = nI (64 * i + j) := by
  rw [show (64 : Int32) = nI 64 from rfl, pk_mul, nI_add]
theorem cs_covers (a p : Int32) : CS (fun σ => fX10_covers σ a p) (gCovers a p) := by
  intro σ A h
  show ∃ σ', fX10_covers σ a p = _ ∧ _
  unfold fX10_covers gCovers
  rw [has4 h, cl_s]
  by_cases c : 0 ≤ a ∧ a < nI A.n
  case neg => rw [if_neg c, if_pos rfl, if_neg (fun z => c z.1)]; exact ⟨σ, rfl, h, fun _ _ => rfl⟩
  rw [if_pos c, if_neg (by decide), within_ok, cl_s]
  by_cases d : 0 ≤ p ∧ p ≤ 63
  case neg => rw [if_neg d, if_pos rfl, if_neg (fun z => d z.2)]; exact ⟨σ, rfl, h, fun _ _ => rfl⟩
  rw [if_pos d, if_neg (by decide), if_pos ⟨c, d⟩]
  have hn := h.mean.1.2.1
  obtain ⟨i, hi, rfl⟩ := rng c.1 c.2 (by omega)
  obtain ⟨j, hj, rfl⟩ := rngL (n := 63) d (by decide)
  rw [ix_nI (by omega), ix_nI (by omega)]
  refine loopA (fX10_covers_L28 (fun (m12 : Mem) (x13 : Int64) => some (x13, m12)) (nI i) (nI j)) (fX10_covers_L28_b (fun (m12 : Mem) (x13 : Int64) => some (x13, m12)) (nI i) (nI j)) (fun _ _ _ _ => rfl) 64
    (fun k m x => CInv m A ∧ Hi σ m ∧ x = mkL (fun k => decide (mnN A.F A.n (nI (64 * j + k)) = i)) k)
    (fun r => ∃ σ', r = some (mkL (fun k => decide (mnN A.F A.n (nI (64 * j + k)) = i)) 64, σ') ∧ CInv σ' A ∧ Hi σ σ') ?_ ?_ 5000 0 σ 0 (by omega) (by omega) ⟨h, fun _ _ => rfl, rfl⟩
  · rintro m x rec ⟨h1, h2, h3⟩
    unfold fX10_covers_L28_b
    rw [if_neg (by decide), h3]
    exact ⟨m, rfl, h1, h2⟩
  · rintro k m x rec hk ⟨h1, h2, h3⟩
    right
    unfold fX10_covers_L28_b
    obtain ⟨m1, a1, a2⟩ := meaning_ex h1.mean (w := 64 * j + k) (by omega)
    have hm := mnN_lt (F := A.F) hn (nI (64 * j + k))
    rw [if_pos (show nI k < 64 from nI_lt (b := 64) hk (by decide)), e64, a1, cl_s, lt_e, nI_1]
    by_cases e : mnN A.F A.n (nI (64 * j + k)) = i
    · rw [if_pos (by rw [e]), lt_e]
      exact ⟨m1, _, ⟨h1.kx a2, fun q hq => (a2.hi q hq).trans (h2 q hq), by rw [h3, mkL, if_pos (by simpa using e)]; rfl⟩, rfl⟩
    · rw [if_neg (fun z => e ((nI_eq (by omega) (by omega)).mp z))]
      refine ⟨m1, _, ⟨h1.kx a2, fun q hq => (a2.hi q hq).trans (h2 q hq), ?_⟩, rfl⟩
      rw [h3, mkL, if_neg (by simpa using e)]; exact (Int64.or_zero).symm
/-- next -/
def nxtP (A : Ab) (m v : Nat) : Option Nat := fndF (fun w => decide (mnN A.F A.n (nI w) = m)) v (4096 - v)
def ansO : Option Nat → Int32
  | some w => nI w
  | none => -1
def gNext (a b : Int32) (A : Ab) : Int32 × Ab := if isMn A.n a ∧ (-1 ≤ b ∧ b ≤ 4095) then (ansO (nxtP A (ix a) (ix (b + 1))), A) else bad A
theorem of_m1 {b : Int32} (h : -1 ≤ b ∧ b ≤ 4095) : ∃ v, v ≤ 4096 ∧ b + 1 = nI v := by
  by_cases e : b < 0
  · have : b = -1 := by
      apply Int32.toInt_inj.mp
      have h1 := Int32.le_iff_toInt_le.mp h.1
      have h2 := Int32.lt_iff_toInt_lt.mp e
      have e1 : (-1 : Int32).toInt = -1 := rfl
      have e2 : (0 : Int32).toInt = 0 := rfl
      omega
    subst this
    exact ⟨0, by omega, rfl⟩
  · obtain ⟨v, hv, e2⟩ := rngL (n := 4095) ⟨by rw [Int32.not_lt] at e; exact e, h.2⟩ (by decide)
    exact ⟨v + 1, by omega, by rw [e2, nI_1]⟩
theorem fndF_step {p : Nat → Bool} {v : Nat} (h : v < 4096) : fndF p v (4096 - v) = if p v = true then some v else fndF p (v + 1) (4096 - (v + 1)) := by
  rw [show 4096 - v = (4096 - (v + 1)) + 1 by omega, fndF]
theorem cs_next (a b : Int32) : CS (fun σ => fX10_next σ a b) (gNext a b) := by
  intro σ A h
  show ∃ σ', fX10_next σ a b = _ ∧ _
  unfold fX10_next gNext
  rw [cmn h, cl_s, lt_e]
  by_cases c : isMn A.n a
  case neg => rw [if_neg c, if_pos rfl, if_neg (fun z => c z.1)]; exact cbad h
  rw [if_pos c, if_neg (by decide), within_ok, cl_s]
  by_cases d : -1 ≤ b ∧ b ≤ 4095
  case neg => rw [if_neg d, if_pos rfl, if_neg (fun z => d z.2)]; exact cbad h
  rw [if_pos d, if_neg (by decide), if_pos ⟨c, d⟩, lt_e]
  have hn := h.mean.1.2.1
  obtain ⟨m, hm, rfl, _⟩ := isMn_of hn c
  obtain ⟨v, hv, e⟩ := of_m1 d
  rw [e, ix_nI (by omega), ix_nI (by omega)]
  refine loopM (fX10_next_L31 (fun (m14 : Mem) (x15 : Int32) => some (x15, m14)) (fun (m17 : Mem) => some ((-1 : Int32), m17)) (nI m)) (fX10_next_L31_b (fun (m14 : Mem) (x15 : Int32) => some (x15, m14)) (fun (m17 : Mem) => some ((-1 : Int32), m17)) (nI m)) (fun _ _ _ => rfl) 4096
    (fun u s => CInv s A ∧ Hi σ s ∧ nxtP A m v = nxtP A m u)
    (fun r => ∃ σ', r = some (ansO (nxtP A m v), σ') ∧ CInv σ' A ∧ Hi σ σ') ?_ ?_ 5000 v σ hv (by omega) ⟨h, fun _ _ => rfl, rfl⟩
  · rintro s rec ⟨h1, h2, h3⟩
    unfold fX10_next_L31_b
    rw [if_neg (by decide), h3]
    exact ⟨s, rfl, h1, h2⟩
  · rintro u s rec hu ⟨h1, h2, h3⟩
    unfold fX10_next_L31_b
    obtain ⟨m1, a1, a2⟩ := meaning_ex h1.mean (w := u) hu
    have hmm := mnN_lt (F := A.F) hn (nI u)
    rw [if_pos (show nI u < 4096 from nI_lt (b := 4096) hu (by decide)), a1, cl_s, nI_1]
    have hst : nxtP A m u = _ := fndF_step hu
    by_cases e : mnN A.F A.n (nI u) = m
    · left
      rw [if_pos (by rw [e]), h3, hst, if_pos (by simpa using e)]
      exact ⟨m1, rfl, h1.kx a2, fun q hq => (a2.hi q hq).trans (h2 q hq)⟩
    · right
      rw [if_neg (fun z => e ((nI_eq (by omega) (by omega)).mp z))]
      refine ⟨m1, ⟨h1.kx a2, fun q hq => (a2.hi q hq).trans (h2 q hq), ?_⟩, rfl⟩
      rw [h3, hst, if_neg (by simpa using e)]; rfl
/-- holders -/
def gHolders (a : Int32) (A : Ab) : Int32 × Ab := if isMn A.n a then (mkS (fun i => decide (mnN A.F A.n (nI (A.d.cel i)) = ix a)) 32, A) else bad A
theorem cs_holders (a : Int32) : CS (fun σ => fX10_holders σ a) (gHolders a) := by
  intro σ A h
  show ∃ σ', fX10_holders σ a = _ ∧ _
  unfold fX10_holders gHolders
  rw [cmn h, cl_s]
  by_cases c : isMn A.n a
  case neg => rw [if_neg c, if_neg c, if_pos rfl]; exact cbad h
  have hn := h.mean.1.2.1
  obtain ⟨m, hm, rfl, _⟩ := isMn_of hn c
  rw [if_pos c, if_neg (by decide), if_pos c, ix_nI (by omega)]
  refine loopA (fX10_holders_L20 (fun (m11 : Mem) (x12 : Int32) => some (x12, m11)) (nI m)) (fX10_holders_L20_b (fun (m11 : Mem) (x12 : Int32) => some (x12, m11)) (nI m)) (fun _ _ _ _ => rfl) 32
    (fun k s x => CInv s A ∧ Hi σ s ∧ x = mkS (fun i => decide (mnN A.F A.n (nI (A.d.cel i)) = m)) k)
    (fun r => ∃ σ', r = some (mkS (fun i => decide (mnN A.F A.n (nI (A.d.cel i)) = m)) 32, σ') ∧ CInv σ' A ∧ Hi σ σ') ?_ ?_ 5000 0 σ 0 (by omega) (by omega) ⟨h, fun _ _ => rfl, rfl⟩
  · rintro s x rec ⟨h1, h2, h3⟩
    unfold fX10_holders_L20_b
    rw [if_neg (by decide), h3]
    exact ⟨s, rfl, h1, h2⟩
  · rintro k s x rec hk ⟨h1, h2, h3⟩
    right
    unfold fX10_holders_L20_b
    obtain ⟨m1, a1, a2⟩ := meaning_ex h1.mean (w := A.d.cel k) (h1.now.2.1 k hk)
    have hmm := mnN_lt (F := A.F) hn (nI (A.d.cel k))
    rw [if_pos (show nI k < 32 from nI_lt (b := 32) hk (by decide)), ck_t (inb_nI hk (by decide)), ix_nI (by omega), h1.now.1.1 k hk, a1, cl_s, lt_e, nI_1]
    by_cases e : mnN A.F A.n (nI (A.d.cel k)) = m
    · rw [if_pos (by rw [e]), lt_e]
      exact ⟨m1, _, ⟨h1.kx a2, fun q hq => (a2.hi q hq).trans (h2 q hq), by rw [h3, mkS, if_pos (by simpa using e)]⟩, rfl⟩
    · rw [if_neg (fun z => e ((nI_eq (by omega) (by omega)).mp z))]
      refine ⟨m1, _, ⟨h1.kx a2, fun q hq => (a2.hi q hq).trans (h2 q hq), ?_⟩, rfl⟩
      rw [h3, mkS, if_neg (by simpa using e)]; exact (Int32.or_zero).symm
/-- odd -/
def tF (p : Nat → Nat → Bool) (n : Nat) : Nat → Nat
  | 0 => 0
  | i + 1 => tF p n i + cF (p i) (i + 1) (n - (i + 1))
def twP (F : Nat → Fm) (i j : Nat) : Bool := decide (mskP (F i) = mskP (F j)) && decide (valP (F i) = valP (F j))
def dead (A : Ab) : Int32 := mkS (fun i => decide (cwN A.F A.n i 4096 = 0)) A.n
def gOdd (a : Int32) (A : Ab) : Int32 × Ab := if 0 ≤ a ∧ a ≤ 2 then (if a = 0 then dead A else if a = 1 then nI (tF (twP A.F) A.n A.n) else nI (tF (clP A.F A.n 4096) A.n A.n), A) else bad A
theorem cF_step {p : Nat → Bool} {i j : Nat} (h : i < j) : cF p (i + 1) (j + 1 - (i + 1)) = cF p (i + 1) (j - (i + 1)) + if p j = true then 1 else 0 := by
  rw [show j + 1 - (i + 1) = (j - (i + 1)) + 1 by omega, cF, show i + 1 + (j - (i + 1)) = j by omega]
theorem twinsB {σ : Mem} {n : Nat} {F : Nat → Fm} (hC : CForms σ n F) {i x : Nat} (hi : i < n) (kk : Mem → Int32 → Option (Int32 × Mem)) :
    fX4_twins_L16 kk (nI i) 5000 σ (nI x) (nI (i + 1)) = kk σ (nI (x + cF (twP F i) (i + 1) (n - (i + 1)))) := by
  have hn := hC.2.1
  refine loopA (fX4_twins_L16 kk (nI i)) (fX4_twins_L16_b kk (nI i)) (fun _ _ _ _ => rfl) n
    (fun j m t => m = σ ∧ i < j ∧ t = nI (x + cF (twP F i) (i + 1) (j - (i + 1))))
    (fun r => r = kk σ (nI (x + cF (twP F i) (i + 1) (n - (i + 1))))) ?_ ?_ 5000 (i + 1) σ (nI x) (by omega) (by omega) ⟨rfl, by omega, by rw [Nat.sub_self]; rfl⟩
  · rintro m t rec ⟨rfl, _, rfl⟩
    unfold fX4_twins_L16_b
    rw [hC.1, if_neg (nI_nlt (Nat.le_refl n) (by omega))]
  · rintro j m t rec hj ⟨rfl, hij, rfl⟩
    right
    unfold fX4_twins_L16_b
    rw [hC.1, if_pos (nI_lt hj (by omega)), ck_t (inb_nI (show i < 12 by omega) (by decide)), ck_t (inb_nI (show j < 12 by omega) (by decide)), ix_nI (by omega), ix_nI (by omega), cIsTwin_ok (hC.2.2 i hi).1 (hC.2.2 j hj).1, cl_s, lt_e, nI_1]
    refine ⟨m, _, ⟨rfl, by omega, rfl⟩, ?_⟩
    rw [cF_step hij]
    by_cases e : twP F i j = true
    · rw [if_pos (show (decide (mskP (F i) = mskP (F j)) && decide (valP (F i) = valP (F j))) = true from e), if_neg (by decide), if_pos e, nI_1, Nat.add_assoc]
    · rw [if_neg (show ¬ (decide (mskP (F i) = mskP (F j)) && decide (valP (F i) = valP (F j))) = true from e), if_pos rfl, if_neg e]; rfl
theorem twins_ok {σ : Mem} {n : Nat} {F : Nat → Fm} (hC : CForms σ n F) : fX4_twins σ = some (nI (tF (twP F) n n), σ) := by
  have hn := hC.2.1
  unfold fX4_twins
  refine loopA (fX4_twins_L4 (fun (m6 : Mem) (x7 : Int32) => some (x7, m6))) (fX4_twins_L4_b (fun (m6 : Mem) (x7 : Int32) => some (x7, m6))) (fun _ _ _ _ => rfl) n
    (fun i m t => m = σ ∧ t = nI (tF (twP F) n i))
    (fun r => r = some (nI (tF (twP F) n n), σ)) ?_ ?_ 5000 0 σ 0 (by omega) (by omega) ⟨rfl, rfl⟩
  · rintro m t rec ⟨rfl, rfl⟩
    unfold fX4_twins_L4_b
    rw [hC.1, if_neg (nI_nlt (Nat.le_refl n) (by omega))]
  · rintro i m t rec hi ⟨rfl, rfl⟩
    right
    unfold fX4_twins_L4_b
    rw [hC.1, if_pos (nI_lt hi (by omega)), lt_e, nI_1, twinsB hC hi]
    exact ⟨m, _, ⟨rfl, rfl⟩, rfl⟩
theorem cwN_le (F : Nat → Fm) (n m : Nat) : ∀ v, cwN F n m v ≤ v
  | 0 => Nat.le_refl _
  | v + 1 => by rw [cwN]; have := cwN_le F n m v; split <;> omega
theorem deadForms_ok {σ : Mem} {A : Ab} (h : CInv σ A) (ht : CThrV σ A.n A.F 4096) : fX6_deadForms σ = some (dead A, σ) := by
  have hn := h.mean.1.2.1
  unfold fX6_deadForms
  refine loopM (fX6_deadForms_L4 (fun (x5 : Int32) => some (x5, σ)) σ) (fX6_deadForms_L4_b (fun (x5 : Int32) => some (x5, σ)) σ) (fun _ _ _ => rfl) A.n
    (fun i t => t = mkS (fun i => decide (cwN A.F A.n i 4096 = 0)) i)
    (fun r => r = some (dead A, σ)) ?_ ?_ 5000 0 0 (by omega) (by omega) rfl
  · rintro t rec rfl
    unfold fX6_deadForms_L4_b
    rw [h.mean.1.1, if_neg (nI_nlt (Nat.le_refl _) (by omega))]
    rfl
  · rintro i t rec hi rfl
    right
    unfold fX6_deadForms_L4_b
    have hle := cwN_le A.F A.n i 4096
    rw [h.mean.1.1, if_pos (nI_lt hi (by omega)), ck_t (inb_nI (show i < 14 by omega) (by decide)), ix_nI (by omega), ht.1 i (by omega), lt_e, nI_1]
    by_cases e : cwN A.F A.n i 4096 = 0
    · rw [if_pos (by rw [e]; rfl), lt_e]
      exact ⟨_, by rw [mkS, if_pos (by simpa using e)], rfl⟩
    · rw [if_neg (show ¬ nI (cwN A.F A.n i 4096) = 0 from fun z => e ((nI_eq (b := 0) (by omega) (by decide)).mp z))]
      refine ⟨_, ?_, rfl⟩
      rw [mkS, if_neg (by simpa using e)]; exact (Int32.or_zero).symm
theorem tF_sum (p : Nat → Nat → Bool) (n : Nat) (hp : ∀ i j, j ≤ i → p i j = false) : ∀ k, k ≤ n → sumN (fun i => sumN (fun j => if p i j = true then 1 else 0) n) k = tF p n k
  | 0, _ => rfl
  | k + 1, hk => by
    rw [sumN, tF, tF_sum p n hp k (by omega)]
    congr 1
    have hs := sumN_cF (p k) (k + 1) (n - (k + 1))
    rw [show k + 1 + (n - (k + 1)) = n by omega] at hs
    rw [← hs]
    refine sumN_congr (fun j _ => ?_)
    by_cases h : k + 1 ≤ j
    · by_cases g : p k j = true <;> simp [h, g]
    · rw [hp k j (by omega)]; simp
theorem clN_tF (F : Nat → Fm) (n v : Nat) : clN F n v = tF (clP F n v) n n :=
  tF_sum (clP F n v) n (fun i j hj => by
    have : ¬ i < j := by omega
    simp [clP, this]) n (Nat.le_refl n)
theorem cs_odd (a : Int32) : CS (fun σ => fX10_odd σ a) (gOdd a) := by
  intro σ A h
  show ∃ σ', fX10_odd σ a = _ ∧ _
  unfold fX10_odd gOdd
  rw [within_ok, cl_s]
  by_cases c : 0 ≤ a ∧ a ≤ 2
  case neg => rw [if_neg c, if_neg c, if_pos rfl]; exact cbad h
  rw [if_pos c, if_neg (by decide), if_pos c]
  by_cases e1 : a = 1
  · subst e1
    rw [if_pos rfl, if_neg (by decide), if_pos rfl, twins_ok h.mean.1, cl_s]
    exact ⟨σ, rfl, h, fun _ _ => rfl⟩
  · obtain ⟨s, a1, a2, a3, a4⟩ := goThrough_ok h
    rw [if_neg e1, a1, cl_s, if_neg e1]
    by_cases e0 : a = 0
    · rw [if_pos e0, if_pos e0, deadForms_ok a2 a4, cl_s]
      exact ⟨s, rfl, a2, a3⟩
    · rw [if_neg e0, if_neg e0, a4.2.2.2, clN_tF]
      exact ⟨s, rfl, a2, a3⟩
/-- the k-th of which p is true, from j on; else how many are wanting still -/
def fk (p : Nat → Bool) : Nat → Nat → Nat → Option Nat × Nat
  | _, 0, k => (none, k)
  | j, c + 1, k => if p j = true then (if k = 0 then (some j, 0) else fk p (j + 1) c (k - 1)) else fk p (j + 1) c k
def fo (p : Nat → Nat → Bool) (n : Nat) : Nat → Nat → Nat → Option (Nat × Nat)
  | _, 0, _ => none
  | i, c + 1, k => match fk (p i) (i + 1) (n - (i + 1)) k with
    | (some j, _) => some (i, j)
    | (none, k') => fo p n (i + 1) c k'
theorem fk_some {p : Nat → Bool} : ∀ {c j k x y : Nat}, fk p j c k = (some x, y) → j ≤ x ∧ x < j + c ∧ p x = true
  | 0, j, k, x, y, h => by simp [fk] at h
  | c + 1, j, k, x, y, h => by
    rw [fk] at h
    by_cases hp : p j = true
    · rw [if_pos hp] at h
      by_cases hk : k = 0
      · rw [if_pos hk] at h
        simp only [Prod.mk.injEq, Option.some.injEq] at h
        obtain ⟨h, _⟩ := h
        subst h
        exact ⟨Nat.le_refl _, by omega, hp⟩
      · rw [if_neg hk] at h
        have := fk_some h
        exact ⟨by omega, by omega, this.2.2⟩
    · rw [if_neg hp] at h
      have := fk_some h
      exact ⟨by omega, by omega, this.2.2⟩
theorem cF_head (p : Nat → Bool) : ∀ c j, cF p j (c + 1) = (if p j = true then 1 else 0) + cF p (j + 1) c
  | 0, j => by simp [cF]
  | c + 1, j => by rw [cF, cF_head p c j, cF, show j + (c + 1) = j + 1 + c by omega]; omega
theorem fk_none {p : Nat → Bool} : ∀ {c j k : Nat}, cF p j c ≤ k → fk p j c k = (none, k - cF p j c)
  | 0, j, k, h => by simp [fk, cF]
  | c + 1, j, k, h => by
    rw [cF_head] at h ⊢
    rw [fk]
    by_cases hp : p j = true
    · simp only [hp, if_true] at h ⊢
      rw [if_neg (by omega), fk_none (by omega)]
      congr 1; omega
    · simp only [hp] at h ⊢
      rw [if_neg (by decide), fk_none (by simpa using h)]
      simp
theorem fo_none {p : Nat → Nat → Bool} {n : Nat} : ∀ {c i k : Nat}, tF p n (i + c) ≤ k + tF p n i → fo p n i c k = none
  | 0, i, k, h => rfl
  | c + 1, i, k, h => by
    have hm : ∀ d, tF p n (i + 1) ≤ tF p n (i + 1 + d) := by
      intro d
      induction d with
      | zero => exact Nat.le_refl _
      | succ d ih =>
        have : tF p n (i + 1 + (d + 1)) = tF p n (i + 1 + d) + cF (p (i + 1 + d)) (i + 1 + d + 1) (n - (i + 1 + d + 1)) := rfl
        omega
    have h2 := hm c
    rw [show i + (c + 1) = i + 1 + c by omega] at h
    have h3 : tF p n (i + 1) = tF p n i + cF (p i) (i + 1) (n - (i + 1)) := rfl
    rw [fo, fk_none (by omega)]
    exact fo_none (by rw [h3] at h2 ⊢; omega)
def ansC (A : Ab) (a2 : Int32) : Option (Nat × Nat) → Int32
  | some (i, j) => if a2 = 0 then nI (16 * i + j) else ansO (wit A.F A.n i j 4096)
  | none => -1
def gClash (a b : Int32) (A : Ab) : Int32 × Ab := if 0 ≤ a ∧ (0 ≤ b ∧ b ≤ 1) then (ansC A b (fo (clP A.F A.n 4096) A.n 0 A.n (ix a)), A) else bad A
theorem pairB {σ : Mem} {A : Ab} (h : CInv σ A) (ht : CThrV σ A.n A.F 4096) {i k : Nat} (hi : i < A.n) (hk : k < 2 ^ 31) (k1 k2 : Int32 → Option (Int32 × Mem)) :
    ∃ o q, fk (clP A.F A.n 4096 i) (i + 1) (A.n - (i + 1)) k = (o, q) ∧ q ≤ k ∧ fX6_clashingPair_L28 k1 k2 σ (nI i) 5000 (nI k) (nI (i + 1)) = match o with | some j => k1 (nI j) | none => k2 (nI q) := by
  have hn := h.mean.1.2.1
  refine loopM (fX6_clashingPair_L28 k1 k2 σ (nI i)) (fX6_clashingPair_L28_b k1 k2 σ (nI i)) (fun _ _ _ => rfl) A.n
    (fun j t => i < j ∧ ∃ u, u ≤ k ∧ t = nI u ∧ fk (clP A.F A.n 4096 i) (i + 1) (A.n - (i + 1)) k = fk (clP A.F A.n 4096 i) j (A.n - j) u)
    (fun r => ∃ o q, fk (clP A.F A.n 4096 i) (i + 1) (A.n - (i + 1)) k = (o, q) ∧ q ≤ k ∧ r = match o with | some j => k1 (nI j) | none => k2 (nI q)) ?_ ?_ 5000 (i + 1) (nI k) (by omega) (by omega) ⟨by omega, k, Nat.le_refl k, rfl, rfl⟩
  · rintro t rec ⟨hj, u, hu, rfl, e⟩
    unfold fX6_clashingPair_L28_b
    rw [h.mean.1.1, if_neg (nI_nlt (Nat.le_refl _) (by omega))]
    rw [Nat.sub_self, fk] at e
    exact ⟨none, u, e, hu, rfl⟩
  · rintro j t rec hj ⟨hij, u, hu, rfl, e⟩
    unfold fX6_clashingPair_L28_b
    have hb : bt (mkS (clP A.F A.n 4096 i) A.n) j = clP A.F A.n 4096 i j := by rw [bt_mkS _ (by omega)]; simp [hj]
    rw [h.mean.1.1, if_pos (nI_lt hj (by omega)), ck_t (inb_nI (show i < 12 by omega) (by decide)), ix_nI (by omega), ht.2.1 i hi, shr1 (by omega), hb, lt_e, lt_e, lt_e, nI_1]
    rw [show A.n - j = (A.n - (j + 1)) + 1 by omega, fk] at e
    by_cases c : clP A.F A.n 4096 i j = true
    · rw [if_pos c] at e ⊢
      rw [if_pos rfl]
      by_cases z : u = 0
      · left
        subst z
        rw [if_pos rfl] at e
        rw [if_pos (show nI 0 = 0 from rfl)]
        exact ⟨some j, 0, e, Nat.zero_le _, rfl⟩
      · right
        rw [if_neg z] at e
        rw [if_neg (nI_ne0 (by omega) (by omega))]
        refine ⟨nI u - 1, ⟨by omega, u - 1, by omega, ?_, e⟩, rfl⟩
        obtain ⟨w, rfl⟩ : ∃ w, u = w + 1 := ⟨u - 1, by omega⟩
        exact m1_nI
    · right
      rw [if_neg c] at e ⊢
      rw [if_neg (by decide)]
      refine ⟨nI u - 0, ⟨by omega, u, hu, ?_, e⟩, rfl⟩
      grind
theorem pair_ok {σ : Mem} {A : Ab} (h : CInv σ A) (ht : CThrV σ A.n A.F 4096) {k : Nat} (hk : k < 2 ^ 31) : fX6_clashingPair σ (nI k) = some (match fo (clP A.F A.n 4096) A.n 0 A.n k with | some (i, j) => nI (16 * i + j) | none => -1, σ) := by
  have hn := h.mean.1.2.1
  unfold fX6_clashingPair
  refine loopM (fX6_clashingPair_L4 (fun (x6 : Int32) (x7 : Int32) => some ((((16 : Int32) * x6) + x7), σ)) (some ((-1 : Int32), σ)) σ) (fX6_clashingPair_L4_b (fun (x6 : Int32) (x7 : Int32) => some ((((16 : Int32) * x6) + x7), σ)) (some ((-1 : Int32), σ)) σ) (fun _ _ _ => rfl) A.n
    (fun i t => ∃ u, u ≤ k ∧ t = nI u ∧ fo (clP A.F A.n 4096) A.n 0 A.n k = fo (clP A.F A.n 4096) A.n i (A.n - i) u)
    (fun r => r = some (match fo (clP A.F A.n 4096) A.n 0 A.n k with | some (i, j) => nI (16 * i + j) | none => -1, σ)) ?_ ?_ 5000 0 (nI k) (by omega) (by omega) ⟨k, Nat.le_refl k, rfl, rfl⟩
  · rintro t rec ⟨u, hu, rfl, e⟩
    unfold fX6_clashingPair_L4_b
    rw [h.mean.1.1, if_neg (nI_nlt (Nat.le_refl _) (by omega)), e, Nat.sub_self, fo]
  · rintro i t rec hi ⟨u, hu, rfl, e⟩
    unfold fX6_clashingPair_L4_b
    rw [h.mean.1.1, if_pos (nI_lt hi (by omega)), ht.2.2.2, clN_tF]
    by_cases c : u < tF (clP A.F A.n 4096) A.n A.n
    · have htb : tF (clP A.F A.n 4096) A.n A.n ≤ 144 := by
        have : ∀ x, x ≤ 12 → tF (clP A.F A.n 4096) A.n x ≤ 12 * x := by
          intro x
          induction x with
          | zero => intro _; exact Nat.le_refl _
          | succ x ih => intro hx; rw [tF]; have := cF_le (clP A.F A.n 4096 x) (x + 1) (A.n - (x + 1)); have := ih (by omega); omega
        have := this A.n hn
        omega
      rw [if_pos (nI_lt c (by omega)), lt_e, nI_1]
      obtain ⟨o, q, b1, b2, b3⟩ := pairB h ht hi (show u < 2 ^ 31 by omega) (fun (x14 : Int32) => some ((((16 : Int32) * nI i) + x14), σ)) (fun (x16 : Int32) => rec x16 (nI (i + 1)))
      rw [b3]
      rw [show A.n - i = (A.n - (i + 1)) + 1 by omega, fo, b1] at e
      cases o with
      | some j =>
        left
        rw [e]
        simp only [e16]
      | none => exact Or.inr ⟨nI q, ⟨q, by omega, rfl, e⟩, rfl⟩
    · left
      have htb : tF (clP A.F A.n 4096) A.n A.n ≤ u := by omega
      rw [if_neg (nI_nlt htb (by omega)), e, fo_none (by rw [show i + (A.n - i) = A.n by omega]; omega)]
theorem fo_some {p : Nat → Nat → Bool} {n : Nat} : ∀ {c i k x y : Nat}, fo p n i c k = some (x, y) → i + c ≤ n → i ≤ x ∧ x < y ∧ y < n ∧ p x y = true
  | 0, i, k, x, y, h, _ => by simp [fo] at h
  | c + 1, i, k, x, y, h, hn => by
    rw [fo] at h
    cases hk : fk (p i) (i + 1) (n - (i + 1)) k with
    | mk o q =>
      rw [hk] at h
      cases o with
      | some j =>
        simp only [Option.some.injEq, Prod.mk.injEq] at h
        obtain ⟨rfl, rfl⟩ := h
        have := fk_some hk
        exact ⟨Nat.le_refl _, by omega, by omega, this.2.2⟩
      | none =>
        have := fo_some h (by omega)
        exact ⟨by omega, this.2⟩
theorem cs_clash (a b : Int32) : CS (fun σ => fX10_clash σ a b) (gClash a b) := by
  intro σ A h
  show ∃ σ', fX10_clash σ a b = _ ∧ _
  unfold fX10_clash gClash
  rw [lt_e]
  by_cases c : a < 0
  case pos => rw [if_pos c, if_neg (fun z => absurd c (by rw [Int32.not_lt]; exact z.1))]; exact cbad h
  have hn := h.mean.1.2.1
  rw [if_neg c, within_ok, cl_s]
  by_cases d : 0 ≤ b ∧ b ≤ 1
  case neg => rw [if_neg d, if_pos rfl, if_neg (fun z => d z.2)]; exact cbad h
  obtain ⟨k, hk, rfl⟩ := nI_of c
  obtain ⟨s, a1, a2, a3, a4⟩ := goThrough_ok h
  rw [if_pos d, if_neg (by decide), a1, cl_s, if_pos ⟨by rw [Int32.not_lt] at c; exact c, d⟩, ix_nI (by omega), pair_ok a2 a4 hk, cl_s]
  refine ⟨s, ?_, a2, a3⟩
  cases hf : fo (clP A.F A.n 4096) A.n 0 A.n k with
  | none => rw [if_pos rfl]; rfl
  | some p =>
    obtain ⟨i, j⟩ := p
    have hs := fo_some hf (by omega)
    show (if nI (16 * i + j) = -1 then _ else _) = _
    rw [if_neg (fun z => absurd (nI_pos' (show 16 * i + j < 2 ^ 31 by omega)) (by rw [z]; decide))]
    by_cases e : b = 0
    · rw [if_pos e]; simp [ansC, e]
    · rw [if_neg e, ck_t (inb_nI (show 16 * i + j < 192 by omega) (by decide)), ix_nI (by omega)]
      have hcl := hs.2.2.2
      unfold clP at hcl
      simp only [Bool.and_eq_true, decide_eq_true_eq] at hcl
      obtain ⟨w, hw⟩ := Option.isSome_iff_exists.mp hcl.2
      rw [a4.2.2.1 i j w hs.2.1 hs.2.2.1 hw]
      simp [ansC, e, hw, ansO]
