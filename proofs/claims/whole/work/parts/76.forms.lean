/-! ===== formOf, ofKind, field, taken, laid ===== -/
def nmL (f : Fm) : Nat := if fnm f 2 = 0 then (if fnm f 1 = 0 then 1 else 2) else 3
def ansF (f : Fm) (b : Int32) : Int32 := if b = 0 then nI (fkd f) else if b = 1 then mskP f else if b = 2 then valP f else if b = 3 then nI (lts f).length else if b = 4 then nI (frc f) else nI (nmL f)
def gFormOf (a b : Int32) (A : Ab) : Int32 × Ab := if (0 ≤ a ∧ a < nI A.n) ∧ (0 ≤ b ∧ b ≤ 5) then (ansF (A.F (ix a)) b, A) else bad A
theorem nI_lc {n c : Nat} (hn : n < 2 ^ 31) (hc : c < 2 ^ 31) : (nI n < nI c) ↔ n < c := by
  constructor
  · intro h
    apply Classical.byContradiction
    intro z
    exact nI_nlt (by omega) hn h
  · intro h; exact nI_lt h hc
theorem lettersIn_ok {σ : Mem} {f : Fm} (h : Nok f) : fX10_lettersIn σ (nI (nmC f)) = some (nI (nmL f), σ) := by
  have hlt := nm3_lt h.nm
  have h1 := h.1; have h2 := h.2.1; have h3 := h.2.2.1; have h4 := h.2.2.2
  unfold Ltr at h1 h2 h3
  rw [nmC_nm3]
  unfold fX10_lettersIn nmL
  have e1 : (nI (nm3 (fnm f 0) (fnm f 1) (fnm f 2)) < (65536 : Int32)) ↔ nm3 (fnm f 0) (fnm f 1) (fnm f 2) < 65536 := nI_lc (c := 65536) (by omega) (by decide)
  have e2 : (nI (nm3 (fnm f 0) (fnm f 1) (fnm f 2)) < (256 : Int32)) ↔ nm3 (fnm f 0) (fnm f 1) (fnm f 2) < 256 := nI_lc (c := 256) (by omega) (by decide)
  simp only [e1, e2]
  unfold nm3
  by_cases a : fnm f 1 = 0
  · rw [if_pos a, if_pos (by omega), if_pos (by omega), if_pos (h4 a), if_pos a]; rfl
  · rw [if_neg a]
    by_cases b : fnm f 2 = 0
    · rw [if_pos b, if_pos (by omega), if_neg (by omega), if_pos b, if_neg a]; rfl
    · rw [if_neg b, if_neg (by omega), if_neg b]; rfl
theorem in05 {b : Int32} (h : ¬ b = 0) (h1 : ¬ b = 1) (h2 : ¬ b = 2) (h3 : ¬ b = 3) (h4 : ¬ b = 4) (h5 : ¬ b = 5) : ¬ (0 ≤ b ∧ b ≤ 5) := by
  intro z
  obtain ⟨k, hk, rfl⟩ := rngL (n := 5) z (by decide)
  have k0 : ¬ k = 0 := fun z => h (by rw [z]; rfl)
  have k1 : ¬ k = 1 := fun z => h1 (by rw [z]; rfl)
  have k2 : ¬ k = 2 := fun z => h2 (by rw [z]; rfl)
  have k3 : ¬ k = 3 := fun z => h3 (by rw [z]; rfl)
  have k4 : ¬ k = 4 := fun z => h4 (by rw [z]; rfl)
  have k5 : ¬ k = 5 := fun z => h5 (by rw [z]; rfl)
  omega
theorem cs_formOf (a b : Int32) : CSa (fun σ => fX10_formOf σ a b) (gFormOf a b) := by
  intro σ A h ha
  show ∃ σ', fX10_formOf σ a b = _ ∧ _
  unfold fX10_formOf gFormOf
  rw [has4 h, cl_s]
  by_cases c : 0 ≤ a ∧ a < nI A.n
  case neg => rw [if_neg c, if_pos rfl, if_neg (fun z => c z.1)]; exact cbad h
  have hn := h.mean.1.2.1
  obtain ⟨i, hi, rfl⟩ := rng c.1 c.2 (by omega)
  obtain ⟨⟨f1, f2, f3, f4⟩, f5, f6, f7⟩ := (h.mean.1.2.2 i hi).1
  rw [if_pos c, if_neg (by decide), ck_t (inb_nI (show i < 12 by omega) (by decide)), ix_nI (by omega), f1, f2, f3, f4, f6.1, f7.1, lettersIn_ok (ha i hi).1, cl_s]
  by_cases b0 : b = 0
  · subst b0; rw [if_pos rfl, if_pos ⟨c, by decide⟩]; exact ⟨σ, rfl, h, fun _ _ => rfl⟩
  rw [if_neg b0]
  by_cases b1 : b = 1
  · subst b1; rw [if_pos rfl, if_pos ⟨c, by decide⟩]; exact ⟨σ, rfl, h, fun _ _ => rfl⟩
  rw [if_neg b1]
  by_cases b2 : b = 2
  · subst b2; rw [if_pos rfl, if_pos ⟨c, by decide⟩]; exact ⟨σ, rfl, h, fun _ _ => rfl⟩
  rw [if_neg b2]
  by_cases b3 : b = 3
  · subst b3; rw [if_pos rfl, if_pos ⟨c, by decide⟩]; exact ⟨σ, rfl, h, fun _ _ => rfl⟩
  rw [if_neg b3]
  by_cases b4 : b = 4
  · subst b4; rw [if_pos rfl, if_pos ⟨c, by decide⟩]; exact ⟨σ, rfl, h, fun _ _ => rfl⟩
  rw [if_neg b4]
  by_cases b5 : b = 5
  · subst b5; rw [if_pos rfl, if_pos ⟨c, by decide⟩]; exact ⟨σ, rfl, h, fun _ _ => rfl⟩
  rw [if_neg b5, if_neg (fun z => in05 b0 b1 b2 b3 b4 b5 z.2)]
  exact cbad h
theorem nameMany_ok {σ : Mem} {i : Nat} {f : Fm} (h : RForm σ i f) (hN : Nok f) : fX11_nameMany σ (nI i) = some (nI (nmL f), σ) := by
  have hi := h.1.1
  have n1 := h.2.2.1 1 (by decide)
  have n2 := h.2.2.1 2 (by decide)
  have h2 := hN.2.1; have h3 := hN.2.2.1
  unfold Ltr at h2 h3
  unfold fX11_nameMany nmL
  rw [show (2 : Int32) = nI 2 from rfl, show (1 : Int32) = nI 1 from rfl, e3, e3, ck_t (inb_nI (show 3 * i + 2 < 36 by omega) (by decide)), ck_t (inb_nI (show 3 * i + 1 < 36 by omega) (by decide)), ix_nI (by omega), ix_nI (by omega), n1, n2]
  by_cases a : fnm f 2 = 0
  · rw [if_pos (show nI (fnm f 2) = 0 by rw [a]; rfl), if_pos a]
    by_cases b : fnm f 1 = 0
    · rw [if_pos (show nI (fnm f 1) = 0 by rw [b]; rfl), if_pos b]
    · rw [if_neg (nI_ne0 (by omega) (by omega)), if_neg b]
  · rw [if_neg (nI_ne0 (by omega) (by omega)), if_neg a]; rfl
theorem rs_formOf (a b : Int32) : RSa (fun σ => fX11_formOf σ a b) (gFormOf a b) := by
  intro σ A h ha
  show ∃ σ', fX11_formOf σ a b = _ ∧ _
  unfold fX11_formOf gFormOf
  rw [isForm_ok h, cl_s, lt_e]
  by_cases c : 0 ≤ a ∧ a < nI A.n
  case neg => rw [if_neg c, if_pos rfl, if_neg (fun z => c z.1)]; exact rbad h
  have hn := h.forms.2.1
  rw [if_pos c, if_neg (by decide), isInI σ b 0 5 0 5 rfl rfl, cl_s]
  by_cases d : 0 ≤ b ∧ b ≤ 5
  case neg => rw [if_neg d, if_pos rfl, if_neg (fun z => d z.2)]; exact rbad h
  obtain ⟨i, hi, rfl⟩ := rng c.1 c.2 (by omega)
  have hf := (h.forms.2.2 i hi).1
  have hin := inb_nI (show i < 12 by omega) (show 12 < 2 ^ 31 by decide)
  unfold fX11_maskOf fX11_valueOf
  rw [if_pos d, if_neg (by decide), if_pos (show (0 ≤ nI i ∧ nI i < nI A.n) ∧ 0 ≤ b ∧ b ≤ 5 from ⟨c, d⟩), nameMany_ok hf (ha i hi).1, fieldsOf_ok hf, ck_t hin, ck_t hin, ck_t hin, ck_t hin, ix_nI (by omega), hf.2.1, hf.2.2.2.1.1, hf.2.2.2.1.2, hf.2.2.2.2.1, cl_s, cl_s, cl_s, cl_s]
  refine ⟨σ, ?_, h, fun _ _ => rfl⟩
  unfold ansF
  by_cases b0 : b = 0
  · rw [if_pos b0, if_pos b0]
  rw [if_neg b0, if_neg b0]
  by_cases b1 : b = 1
  · rw [if_pos b1, if_pos b1]
  rw [if_neg b1, if_neg b1]
  by_cases b2 : b = 2
  · rw [if_pos b2, if_pos b2]
  rw [if_neg b2, if_neg b2]
  by_cases b3 : b = 3
  · rw [if_pos b3, if_pos b3]
  rw [if_neg b3, if_neg b3]
  by_cases b4 : b = 4
  · rw [if_pos b4, if_pos b4]
  rw [if_neg b4, if_neg b4]
/-- ofKind -/
def undP (k a : Nat) : Bool := decide (k = a) || (decide (a = 0) || (decide (k = 3 ∧ a = 1) || (decide (k = 4 ∧ a = 2) || decide (k = 6 ∧ (a = 3 ∨ a = 1)))))
def gOfKind (a : Int32) (A : Ab) : Int32 × Ab := if 0 ≤ a ∧ a ≤ 6 then (mkS (fun i => undP (fkd (A.F i)) (ix a)) A.n, A) else bad A
def uK (k a : Nat) : Int32 := if k = a then nI k else if a = 0 then 0 else if k = 3 then 1 else if k = 4 then 2 else if k = 6 then (if a = 3 then 3 else 1) else 0
theorem und_ok (σ : Mem) {k a : Nat} (hk : k < 7) (ha : a < 7) : fX10_isUnder σ (nI k) (nI a) = some (if undP k a = true then 1 else 0, σ) := by
  have h1 : ∀ k, k < 7 → ∀ a, a < 7 → ((if nI k = nI a then some (1 : Int32) else (if sV 0 k = nI a then some 1 else (if sV 0 k = -1 then some 0 else (if sV 0 (ix (sV 0 k)) = nI a then some 1 else (if sV 0 (ix (sV 0 k)) = -1 then some 0 else (if sV 0 (ix (sV 0 (ix (sV 0 k)))) = nI a then some 1 else some 0)))))) = some (if undP k a = true then 1 else 0)) := by decide
  have hv : ∀ k, k < 7 → sV 0 k = -1 ∨ (0 ≤ sV 0 k ∧ sV 0 k ≤ 6 ∧ inb (sV 0 k) 7 = true ∧ ix (sV 0 k) < 7 ∧ ¬ sV 0 k = -1) := by decide
  unfold fX10_isUnder
  have step : ∀ (kk : Mem → Int32 → Option (Int32 × Mem)) (n : Nat) (x i : Int32), fX10_isUnder_L4 kk (nI a) (n + 1) σ x i = fX10_isUnder_L4_b kk (nI a) (fX10_isUnder_L4 kk (nI a) n) σ x i := fun _ _ _ _ => rfl
  have key := h1 k hk a ha
  rw [step 
    (fun (m7 : Mem) (x8 : Int32) => if x8 = nI a then some ((1 : Int32), m7) else some ((0 : Int32), m7)) 4999, fX10_isUnder_L4_b, if_pos (by decide)]
  by_cases c0 : nI k = nI a
  · rw [if_pos c0] at key ⊢
    rw [if_pos c0]
    simp only [Option.some.injEq] at key
    rw [← key]
  rw [if_neg c0] at key ⊢
  rw [within_ok, cl_s, if_pos (show 0 ≤ nI k ∧ nI k ≤ 6 from ⟨nI_pos' (by omega), nI_le (b := 6) (by omega) (by decide)⟩), if_neg (by decide), ck_t (inb_nI hk (by decide)), lt_e, ix_nI (by omega), step _ 4998, fX10_isUnder_L4_b, if_pos (by decide)]
  by_cases c1 : sV 0 k = nI a
  · rw [if_pos c1] at key ⊢
    rw [if_pos c1]
    simp only [Option.some.injEq] at key
    rw [← key]
  rw [if_neg c1] at key ⊢
  rw [within_ok, cl_s]
  rcases hv k hk with e | ⟨e1, e2, e3, e4, e5⟩
  · rw [if_pos e] at key
    rw [if_neg (show ¬ (0 ≤ sV 0 k ∧ sV 0 k ≤ 6) by rw [e]; decide), if_pos rfl, if_neg c1]
    simp only [Option.some.injEq] at key
    rw [← key]
  rw [if_neg e5] at key
  rw [if_pos (show 0 ≤ sV 0 k ∧ sV 0 k ≤ 6 from ⟨e1, e2⟩), if_neg (by decide), ck_t e3, lt_e, step _ 4997, fX10_isUnder_L4_b, if_pos (by decide)]
  by_cases c2 : sV 0 (ix (sV 0 k)) = nI a
  · rw [if_pos c2] at key ⊢
    rw [if_pos c2]
    simp only [Option.some.injEq] at key
    rw [← key]
  rw [if_neg c2] at key ⊢
  rw [within_ok, cl_s]
  rcases hv _ e4 with e | ⟨d1, d2, d3, d4, d5⟩
  · rw [if_pos e] at key
    rw [if_neg (show ¬ (0 ≤ sV 0 (ix (sV 0 k)) ∧ sV 0 (ix (sV 0 k)) ≤ 6) by rw [e]; decide), if_pos rfl, if_neg c2]
    simp only [Option.some.injEq] at key
    rw [← key]
  rw [if_neg d5] at key
  rw [if_pos (show 0 ≤ sV 0 (ix (sV 0 k)) ∧ sV 0 (ix (sV 0 k)) ≤ 6 from ⟨d1, d2⟩), if_neg (by decide), ck_t d3, lt_e, step _ 4996, fX10_isUnder_L4_b, if_neg (by decide)]
  by_cases c3 : sV 0 (ix (sV 0 (ix (sV 0 k)))) = nI a
  · rw [if_pos c3] at key ⊢
    simp only [Option.some.injEq] at key
    rw [← key]
  · rw [if_neg c3] at key ⊢
    simp only [Option.some.injEq] at key
    rw [← key]
theorem cs_ofKind (a : Int32) : CS (fun σ => fX10_ofKind σ a) (gOfKind a) := by
  intro σ A h
  show ∃ σ', fX10_ofKind σ a = _ ∧ _
  unfold fX10_ofKind gOfKind
  rw [within_ok, cl_s]
  by_cases c : 0 ≤ a ∧ a ≤ 6
  case neg => rw [if_neg c, if_neg c, if_pos rfl]; exact cbad h
  have hn := h.mean.1.2.1
  obtain ⟨k, hk, rfl⟩ := rngL (n := 6) c (by decide)
  rw [if_pos c, if_neg (by decide), if_pos c, ix_nI (by omega)]
  refine loopA (fX10_ofKind_L22 (fun (m11 : Mem) (x12 : Int32) => some (x12, m11)) (nI k)) (fX10_ofKind_L22_b (fun (m11 : Mem) (x12 : Int32) => some (x12, m11)) (nI k)) (fun _ _ _ _ => rfl) A.n
    (fun i m t => m = σ ∧ t = mkS (fun i => undP (fkd (A.F i)) k) i)
    (fun r => ∃ σ', r = some (mkS (fun i => undP (fkd (A.F i)) k) A.n, σ') ∧ CInv σ' A ∧ Hi σ σ') ?_ ?_ 5000 0 σ 0 (by omega) (by omega) ⟨rfl, rfl⟩
  · rintro m t rec ⟨rfl, rfl⟩
    unfold fX10_ofKind_L22_b
    rw [h.mean.1.1, if_neg (nI_nlt (Nat.le_refl _) (by omega))]
    exact ⟨m, rfl, h, fun _ _ => rfl⟩
  · rintro i m t rec hi ⟨rfl, rfl⟩
    right
    unfold fX10_ofKind_L22_b
    have hf := h.mean.1.2.2 i hi
    rw [h.mean.1.1, if_pos (nI_lt hi (by omega)), ck_t (inb_nI (show i < 12 by omega) (by decide)), ix_nI (by omega), hf.1.1.1, und_ok m hf.2.1 (by omega), cl_s, lt_e, nI_1]
    by_cases e : undP (fkd (A.F i)) k = true
    · rw [if_pos e, if_neg (by decide), lt_e]
      exact ⟨m, _, ⟨rfl, by rw [mkS, if_pos e]⟩, rfl⟩
    · rw [if_neg e, if_pos rfl]
      refine ⟨m, _, ⟨rfl, ?_⟩, rfl⟩
      rw [mkS, if_neg e]; exact (Int32.or_zero).symm
theorem rund (σ : Mem) {k a : Nat} (hk : k < 7) (ha : a < 7) (y14 y15 : Int32) (kk : Int32 → Option (Int32 × Mem)) : ∃ x, fX11_ofKind_L40 kk σ (nI a) y14 y15 5000 (nI k) = kk x ∧ (x = nI a ↔ undP k a = true) := by
  have step : ∀ (n : Nat) (x : Int32), fX11_ofKind_L40 kk σ (nI a) y14 y15 (n + 1) x = fX11_ofKind_L40_b kk σ (nI a) y14 y15 (fX11_ofKind_L40 kk σ (nI a) y14 y15 n) x := fun _ _ => rfl
  have h1 : ∀ k, k < 7 → ∀ a, a < 7 → ((if nI k = nI a then true else (if sV 5 k = -1 then false else if sV 5 k = nI a then true else (if sV 5 (ix (sV 5 k)) = -1 then false else if sV 5 (ix (sV 5 k)) = nI a then true else (if sV 5 (ix (sV 5 (ix (sV 5 k)))) = -1 then false else sV 5 (ix (sV 5 (ix (sV 5 k)))) == nI a)))) = undP k a) := by decide
  have hv : ∀ k, k < 7 → sV 5 k = -1 ∨ (inb (sV 5 k) 7 = true ∧ ix (sV 5 k) < 7 ∧ ¬ sV 5 k = -1) := by decide
  have h4 : ∀ k, k < 7 → sV 5 k = -1 ∨ sV 5 (ix (sV 5 k)) = -1 ∨ sV 5 (ix (sV 5 (ix (sV 5 k)))) = -1 ∨ (inb (sV 5 (ix (sV 5 (ix (sV 5 k))))) 7 = true ∧ sV 5 (ix (sV 5 (ix (sV 5 (ix (sV 5 k)))))) = -1 ∧ sV 5 (ix (sV 5 (ix (sV 5 k)))) = 0) := by decide
  have hm1 : ¬ (-1 : Int32) = nI a := fun z => absurd (nI_pos' (show a < 2 ^ 31 by omega)) (by rw [← z]; decide)
  have key := h1 k hk a ha
  rw [step 4999, fX11_ofKind_L40_b, if_neg (fun z => absurd (nI_pos' (show k < 2 ^ 31 by omega)) (by rw [z]; decide))]
  by_cases c0 : nI k = nI a
  · rw [if_pos c0] at key ⊢
    exact ⟨_, rfl, by simp [c0, ← key]⟩
  rw [if_neg c0] at key ⊢
  rw [ck_t (inb_nI hk (by decide)), lt_e, ix_nI (by omega), step 4998, fX11_ofKind_L40_b]
  rcases hv k hk with e | ⟨e1, e2, e3⟩
  · rw [if_pos e] at key ⊢
    exact ⟨_, rfl, by rw [e, ← key]; simp [hm1]⟩
  rw [if_neg e3] at key ⊢
  by_cases c1 : sV 5 k = nI a
  · rw [if_pos c1] at key ⊢
    exact ⟨_, rfl, by simp [c1, ← key]⟩
  rw [if_neg c1] at key ⊢
  rw [ck_t e1, lt_e, step 4997, fX11_ofKind_L40_b]
  rcases hv _ e2 with e | ⟨d1, d2, d3⟩
  · rw [if_pos e] at key ⊢
    exact ⟨_, rfl, by rw [e, ← key]; simp [hm1]⟩
  rw [if_neg d3] at key ⊢
  by_cases c2 : sV 5 (ix (sV 5 k)) = nI a
  · rw [if_pos c2] at key ⊢
    exact ⟨_, rfl, by simp [c2, ← key]⟩
  rw [if_neg c2] at key ⊢
  rw [ck_t d1, lt_e, step 4996, fX11_ofKind_L40_b]
  by_cases e : sV 5 (ix (sV 5 (ix (sV 5 k)))) = -1
  · rw [if_pos e] at key ⊢
    exact ⟨_, rfl, by rw [e, ← key]; simp [hm1]⟩
  rw [if_neg e] at key ⊢
  by_cases c3 : sV 5 (ix (sV 5 (ix (sV 5 k)))) = nI a
  · rw [if_pos c3]
    exact ⟨_, rfl, by rw [← key]; simp⟩
  rw [if_neg c3]
  rcases h4 k hk with z | z | z | ⟨z1, z2, z3⟩
  · exact absurd z e3
  · exact absurd z d3
  · exact absurd z e
  rw [ck_t z1, lt_e, step 4995, fX11_ofKind_L40_b, if_pos z2]
  exact ⟨_, rfl, by rw [z2, ← key]; simp [hm1, c3]⟩
theorem rs_ofKind (a : Int32) : RS (fun σ => fX11_ofKind σ a) (gOfKind a) := by
  intro σ A h
  show ∃ σ', fX11_ofKind σ a = _ ∧ _
  unfold fX11_ofKind gOfKind
  rw [isInI σ a 0 6 0 6 rfl rfl, cl_s]
  by_cases c : 0 ≤ a ∧ a ≤ 6
  case neg => rw [if_neg c, if_neg c, if_pos rfl]; exact rbad h
  have hn := h.forms.2.1
  obtain ⟨k, hk, rfl⟩ := rngL (n := 6) c (by decide)
  rw [if_pos c, if_neg (by decide), if_pos c, ix_nI (by omega)]
  refine loopM (fX11_ofKind_L24 (fun (x10 : Int32) => some (x10, σ)) σ (nI k)) (fX11_ofKind_L24_b (fun (x10 : Int32) => some (x10, σ)) σ (nI k)) (fun _ _ _ => rfl) A.n
    (fun i t => t = mkS (fun i => undP (fkd (A.F i)) k) i)
    (fun r => ∃ σ', r = some (mkS (fun i => undP (fkd (A.F i)) k) A.n, σ') ∧ RInv σ' A ∧ Lo σ σ') ?_ ?_ 5000 0 0 (by omega) (by omega) rfl
  · rintro t rec rfl
    unfold fX11_ofKind_L24_b
    rw [h.forms.1, if_neg (nI_nlt (Nat.le_refl _) (by omega))]
    exact ⟨σ, rfl, h, fun _ _ => rfl⟩
  · rintro i t rec hi rfl
    right
    unfold fX11_ofKind_L24_b
    have hf := h.forms.2.2 i hi
    rw [h.forms.1, if_pos (nI_lt hi (by omega)), ck_t (inb_nI (show i < 12 by omega) (by decide)), ix_nI (by omega), hf.1.2.1, lt_e, nI_1]
    simp only [lt_e]
    obtain ⟨x, p1, p2⟩ := rund σ hf.2.1 (show k < 7 by omega) (mkS (fun i => undP (fkd (A.F i)) k) i) (nI i) (fun x18 => if x18 = nI k then rec (mkS (fun i => undP (fkd (A.F i)) k) i ||| 1 <<< (nI i &&& 31)) (nI (i + 1)) else rec (mkS (fun i => undP (fkd (A.F i)) k) i ||| 0) (nI (i + 1)))
    rw [p1]
    by_cases e : undP (fkd (A.F i)) k = true
    · rw [if_pos (p2.mpr e)]
      exact ⟨_, by rw [mkS, if_pos e], rfl⟩
    · rw [if_neg (fun z => e (p2.mp z))]
      exact ⟨_, by rw [mkS, if_neg e], rfl⟩
