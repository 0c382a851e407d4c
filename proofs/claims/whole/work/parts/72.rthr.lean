/-! ===== many, covers, next, clash, odd, holders: the reference ===== -/
theorem loopD {S T U R : Type} (f : Nat → S → T → U → Int32 → Option R) (b : (S → T → U → Int32 → Option R) → S → T → U → Int32 → Option R) (hf : ∀ n s t u x, f (n + 1) s t u x = b (f n) s t u x) (N : Nat) (I : Nat → S → T → U → Prop) (Q : Option R → Prop)
    (he : ∀ m t u rec, I N m t u → Q (b rec m t u (nI N))) (h : ∀ i m t u rec, i < N → I i m t u → Q (b rec m t u (nI i)) ∨ ∃ m' t' u', I (i + 1) m' t' u' ∧ b rec m t u (nI i) = rec m' t' u' (nI (i + 1))) : ∀ fuel i m t u, i ≤ N → N - i < fuel → I i m t u → Q (f fuel m t u (nI i)) := by
  intro fuel
  induction fuel with
  | zero => intro i m t u _ hn; omega
  | succ n ih =>
    intro i m t u hi hn hI
    rw [hf]
    by_cases e : i = N
    · subst e; exact he _ _ _ _ hI
    · rcases h i m t u (f n) (by omega) hI with h1 | ⟨m', t', u', h2, h3⟩
      · exact h1
      · rw [h3]; exact ih (i + 1) m' t' u' (by omega) (by omega) h2
theorem loopE {S T U V R : Type} (f : Nat → S → T → U → V → Int32 → Option R) (b : (S → T → U → V → Int32 → Option R) → S → T → U → V → Int32 → Option R) (hf : ∀ n s t u v x, f (n + 1) s t u v x = b (f n) s t u v x) (N : Nat) (I : Nat → S → T → U → V → Prop) (Q : Option R → Prop)
    (he : ∀ m t u v rec, I N m t u v → Q (b rec m t u v (nI N))) (h : ∀ i m t u v rec, i < N → I i m t u v → Q (b rec m t u v (nI i)) ∨ ∃ m' t' u' v', I (i + 1) m' t' u' v' ∧ b rec m t u v (nI i) = rec m' t' u' v' (nI (i + 1))) : ∀ fuel i m t u v, i ≤ N → N - i < fuel → I i m t u v → Q (f fuel m t u v (nI i)) := by
  intro fuel
  induction fuel with
  | zero => intro i m t u v _ hn; omega
  | succ n ih =>
    intro i m t u v hi hn hI
    rw [hf]
    by_cases e : i = N
    · subst e; exact he _ _ _ _ _ hI
    · rcases h i m t u v (f n) (by omega) hI with h1 | ⟨m', t', u', v', h2, h3⟩
      · exact h1
      · rw [h3]; exact ih (i + 1) m' t' u' v' (by omega) (by omega) h2
def mnr (m : Nat) : Int32 := if m = 12 then -1 else if m = 13 then -2 else nI m
theorem mnR_mnr (F : Nat → Fm) (n : Nat) (w : Int32) : mnR F n w = mnr (mnN F n w) := rfl
theorem mnr_inj : ∀ a, a < 14 → ∀ b, b < 14 → (mnr a = mnr b ↔ a = b) := by decide
theorem mnr_f : ∀ a, a < 12 → mnr a = nI a := by decide
def askR (n : Nat) (a : Int32) : Int32 := if 0 ≤ a ∧ a < nI n then a else if a = 12 then -1 else if a = 13 then -2 else -9
theorem asked_ok {σ : Mem} {A : Ab} (h : RInv σ A) (a : Int32) : fX11_asked σ a = some (askR A.n a, σ) := by
  unfold fX11_asked askR
  rw [isForm_ok h, cl_s]
  by_cases c : 0 ≤ a ∧ a < nI A.n
  · rw [if_pos c, if_neg (by decide), if_pos c]
  · rw [if_neg c, if_pos rfl, if_neg c]
    by_cases d : a = 12
    · rw [if_pos d, if_pos d]
    · rw [if_neg d, if_neg d]
      by_cases e : a = 13
      · rw [if_pos e, if_pos e]
      · rw [if_neg e, if_neg e]
theorem askR_mn {n m : Nat} (hn : n ≤ 12) (hm : m < n ∨ m = 12 ∨ m = 13) : askR n (nI m) = mnr m := by
  unfold askR mnr
  rcases hm with h | rfl | rfl
  · rw [if_pos ⟨nI_pos' (by omega), nI_lt h (by omega)⟩, if_neg (by omega), if_neg (by omega)]
  · rw [if_neg (fun z => absurd z.2 (nI_nlt hn (by omega)))]; rfl
  · rw [if_neg (fun z => absurd z.2 (nI_nlt (by omega) (by omega)))]; rfl
theorem askR_bad {n : Nat} {a : Int32} (h : ¬ isMn n a) : askR n a = -9 := by
  unfold askR
  rw [if_neg (fun z => h (Or.inl z)), if_neg (fun z => h (Or.inr (Or.inl z))), if_neg (fun z => h (Or.inr (Or.inr z)))]
theorem mnr_ne : ∀ m, m < 14 → ¬ mnr m = -9 := by decide
theorem rs_many (a : Int32) : RS (fun σ => fX11_many σ a) (gMany a) := by
  intro σ A h
  show ∃ σ', fX11_many σ a = _ ∧ _
  unfold fX11_many gMany
  rw [asked_ok h, cl_s]
  by_cases c : isMn A.n a
  case neg => rw [askR_bad c, if_pos rfl, if_neg c]; exact rbad h
  have hn := h.forms.2.1
  obtain ⟨m, hm, rfl, hmm⟩ := isMn_of hn c
  obtain ⟨s, b1, b2, b3, b4⟩ := looks_ok h.forms h.lk
  have hs := h.same b2 b3 b4
  rw [askR_mn hn hmm, if_neg (mnr_ne m hm), if_pos c, b1, cl_s, ix_nI (by omega)]
  refine loopA (fX11_many_L26 (fun (m12 : Mem) (x13 : Int32) => some (x13, m12)) (nI m)) (fX11_many_L26_b (fun (m12 : Mem) (x13 : Int32) => some (x13, m12)) (nI m)) (fun _ _ _ _ => rfl) 4096
    (fun v t x => t = s ∧ x = nI (cwN A.F A.n m v))
    (fun r => ∃ σ', r = some (nI (cwN A.F A.n m 4096), σ') ∧ RInv σ' A ∧ Lo σ σ') ?_ ?_ 5000 0 s 0 (by omega) (by omega) ⟨rfl, rfl⟩
  · rintro t x rec ⟨rfl, rfl⟩
    unfold fX11_many_L26_b
    rw [if_neg (by decide)]
    exact ⟨t, rfl, hs, b2.lo⟩
  · rintro v t x rec hv ⟨rfl, rfl⟩
    right
    unfold fX11_many_L26_b
    rw [if_pos (show nI v < 4096 from nI_lt (b := 4096) hv (by decide)), ck_t (inb_nI hv (by decide)), asked_ok hs, cl_s, askR_mn hn hmm, ix_nI (by omega), (b4 v hv).2, mnR_mnr, lt_e, nI_1]
    have hv14 := (mnN_lt (F := A.F) hn (nI v)).1
    refine ⟨t, _, ⟨rfl, rfl⟩, ?_⟩
    rw [cwN]
    simp only [lt_e]
    by_cases e : mnN A.F A.n (nI v) = m
    · rw [if_pos (by rw [e]), if_pos e, nI_1]
    · rw [if_neg (fun z => e ((mnr_inj _ hv14 _ hm).mp z)), if_neg e]
      show rec t (nI _ + nI 0) _ = _
      rw [nI_add]
theorem rs_covers (a p : Int32) : RS (fun σ => fX11_covers σ a p) (gCovers a p) := by
  intro σ A h
  show ∃ σ', fX11_covers σ a p = _ ∧ _
  unfold fX11_covers gCovers
  rw [isForm_ok h, cl_s]
  by_cases c : 0 ≤ a ∧ a < nI A.n
  case neg => rw [if_neg c, if_pos rfl, if_neg (fun z => c z.1)]; exact ⟨σ, rfl, h, fun _ _ => rfl⟩
  rw [if_pos c, if_neg (by decide), isInI σ p 0 63 0 63 rfl rfl, cl_s]
  by_cases d : 0 ≤ p ∧ p ≤ 63
  case neg => rw [if_neg d, if_pos rfl, if_neg (fun z => d z.2)]; exact ⟨σ, rfl, h, fun _ _ => rfl⟩
  rw [if_pos d, if_neg (by decide), if_pos ⟨c, d⟩]
  have hn := h.forms.2.1
  obtain ⟨i, hi, rfl⟩ := rng c.1 c.2 (by omega)
  obtain ⟨j, hj, rfl⟩ := rngL (n := 63) d (by decide)
  obtain ⟨s, b1, b2, b3, b4⟩ := looks_ok h.forms h.lk
  have hs := h.same b2 b3 b4
  rw [ix_nI (by omega), ix_nI (by omega), b1, cl_s]
  refine loopM (fX11_covers_L31 (fun (x12 : Int64) => some (x12, s)) s (nI i) (nI j)) (fX11_covers_L31_b (fun (x12 : Int64) => some (x12, s)) s (nI i) (nI j)) (fun _ _ _ => rfl) 64
    (fun k x => x = mkL (fun k => decide (mnN A.F A.n (nI (64 * j + k)) = i)) k)
    (fun r => ∃ σ', r = some (mkL (fun k => decide (mnN A.F A.n (nI (64 * j + k)) = i)) 64, σ') ∧ RInv σ' A ∧ Lo σ σ') ?_ ?_ 5000 0 0 (by omega) (by omega) rfl
  · rintro x rec rfl
    unfold fX11_covers_L31_b
    rw [if_neg (by decide)]
    exact ⟨s, rfl, hs, b2.lo⟩
  · rintro k x rec hk rfl
    right
    unfold fX11_covers_L31_b
    have hm := mnN_lt (F := A.F) hn (nI (64 * j + k))
    rw [if_pos (show nI k < 64 from nI_lt (b := 64) hk (by decide)), e64, ck_t (inb_nI (show 64 * j + k < 4096 by omega) (by decide)), ix_nI (by omega), (b4 (64 * j + k) (by omega)).2, mnR_mnr, lt_e, nI_1]
    simp only [lt_e]
    by_cases e : mnN A.F A.n (nI (64 * j + k)) = i
    · rw [if_pos (by rw [e, mnr_f i (by omega)])]
      exact ⟨_, by rw [mkL, if_pos (by simpa using e)]; rfl, rfl⟩
    · rw [if_neg (fun z => e ((mnr_inj _ hm.1 i (by omega)).mp (by rw [z, mnr_f i (by omega)])))]
      exact ⟨_, by rw [mkL, if_neg (by simpa using e)], rfl⟩
theorem rs_next (a b : Int32) : RS (fun σ => fX11_next σ a b) (gNext a b) := by
  intro σ A h
  show ∃ σ', fX11_next σ a b = _ ∧ _
  unfold fX11_next gNext
  rw [asked_ok h, cl_s, lt_e]
  by_cases c : isMn A.n a
  case neg => rw [askR_bad c, if_pos rfl, if_neg (fun z => c z.1)]; exact rbad h
  have hn := h.forms.2.1
  obtain ⟨m, hm, rfl, hmm⟩ := isMn_of hn c
  rw [askR_mn hn hmm, if_neg (mnr_ne m hm), isInI σ b (-1) 4095 (-1) 4095 rfl rfl, cl_s]
  by_cases d : -1 ≤ b ∧ b ≤ 4095
  case neg => rw [if_neg d, if_pos rfl, if_neg (fun z => d z.2)]; exact rbad h
  obtain ⟨s, b1, b2, b3, b4⟩ := looks_ok h.forms h.lk
  have hs := h.same b2 b3 b4
  rw [if_pos d, if_neg (by decide), if_pos ⟨c, d⟩, b1, cl_s, lt_e]
  obtain ⟨v, hv, e⟩ := of_m1 d
  rw [e, ix_nI (by omega), ix_nI (by omega)]
  refine loopM (fX11_next_L40 (fun (m15 : Mem) (x16 : Int32) => some (x16, m15)) (fun (m18 : Mem) => some ((-1 : Int32), m18)) (nI m)) (fX11_next_L40_b (fun (m15 : Mem) (x16 : Int32) => some (x16, m15)) (fun (m18 : Mem) => some ((-1 : Int32), m18)) (nI m)) (fun _ _ _ => rfl) 4096
    (fun u t => t = s ∧ nxtP A m v = nxtP A m u)
    (fun r => ∃ σ', r = some (ansO (nxtP A m v), σ') ∧ RInv σ' A ∧ Lo σ σ') ?_ ?_ 5000 v s hv (by omega) ⟨rfl, rfl⟩
  · rintro t rec ⟨rfl, h3⟩
    unfold fX11_next_L40_b
    rw [if_neg (by decide), h3]
    exact ⟨t, rfl, hs, b2.lo⟩
  · rintro u t rec hu ⟨rfl, h3⟩
    unfold fX11_next_L40_b
    have hv14 := (mnN_lt (F := A.F) hn (nI u)).1
    rw [if_pos (show nI u < 4096 from nI_lt (b := 4096) hu (by decide)), ck_t (inb_nI hu (by decide)), asked_ok hs, cl_s, askR_mn hn hmm, ix_nI (by omega), (b4 u hu).2, mnR_mnr, nI_1]
    have hst : nxtP A m u = _ := fndF_step hu
    by_cases e : mnN A.F A.n (nI u) = m
    · left
      rw [if_pos (by rw [e]), h3, hst, if_pos (by simpa using e)]
      exact ⟨t, rfl, hs, b2.lo⟩
    · right
      rw [if_neg (fun z => e ((mnr_inj _ hv14 _ hm).mp z))]
      refine ⟨t, ⟨rfl, ?_⟩, rfl⟩
      rw [h3, hst, if_neg (by simpa using e)]; rfl
theorem rs_holders (a : Int32) : RS (fun σ => fX11_holders σ a) (gHolders a) := by
  intro σ A h
  show ∃ σ', fX11_holders σ a = _ ∧ _
  unfold fX11_holders gHolders
  rw [asked_ok h, cl_s]
  by_cases c : isMn A.n a
  case neg => rw [askR_bad c, if_pos rfl, if_neg c]; exact rbad h
  have hn := h.forms.2.1
  obtain ⟨m, hm, rfl, hmm⟩ := isMn_of hn c
  rw [askR_mn hn hmm, if_neg (mnr_ne m hm), if_pos c, ix_nI (by omega)]
  refine loopA (fX11_holders_L22 (fun (m11 : Mem) (x12 : Int32) => some (x12, m11)) (nI m)) (fX11_holders_L22_b (fun (m11 : Mem) (x12 : Int32) => some (x12, m11)) (nI m)) (fun _ _ _ _ => rfl) 32
    (fun k s x => RInv s A ∧ Lo σ s ∧ x = mkS (fun i => decide (mnN A.F A.n (nI (A.d.cel i)) = m)) k)
    (fun r => ∃ σ', r = some (mkS (fun i => decide (mnN A.F A.n (nI (A.d.cel i)) = m)) 32, σ') ∧ RInv σ' A ∧ Lo σ σ') ?_ ?_ 33 0 σ 0 (by omega) (by omega) ⟨h, fun _ _ => rfl, rfl⟩
  · rintro s x rec ⟨h1, h2, h3⟩
    unfold fX11_holders_L22_b
    rw [if_neg (by decide), h3]
    exact ⟨s, rfl, h1, h2⟩
  · rintro k s x rec hk ⟨h1, h2, h3⟩
    right
    unfold fX11_holders_L22_b
    have hcel := h1.now.1.2.1 k hk
    rw [Nat.zero_add] at hcel
    obtain ⟨m1, a1, a2, a3, a4⟩ := meant_ok h1.forms h1.lk (w := A.d.cel k) (h1.now.2.1 k hk)
    have h1' := h1.same a2 a3 a4
    have hv14 := (mnN_lt (F := A.F) hn (nI (A.d.cel k))).1
    rw [if_pos (show nI k < 32 from nI_lt (b := 32) hk (by decide)), e8, ck_t (inb_nI (show 8 + k < 73 by omega) (by decide)), ix_nI (by omega), hcel, a1, cl_s, asked_ok h1', cl_s, askR_mn hn hmm, mnR_mnr, lt_e, nI_1]
    simp only [lt_e]
    by_cases e : mnN A.F A.n (nI (A.d.cel k)) = m
    · rw [if_pos (by rw [e])]
      exact ⟨m1, _, ⟨h1', fun q hq => (a2.lo q hq).trans (h2 q hq), by rw [h3, mkS, if_pos (by simpa using e)]⟩, rfl⟩
    · rw [if_neg (fun z => e ((mnr_inj _ hv14 _ hm).mp z))]
      exact ⟨m1, _, ⟨h1', fun q hq => (a2.lo q hq).trans (h2 q hq), by rw [h3, mkS, if_neg (by simpa using e)]⟩, rfl⟩
theorem mnr13 : ∀ m, m < 14 → (mnr m = -2 ↔ m = 13) := by decide
theorem witness_ok {σ : Mem} {A : Ab} (h : RInv σ A) {i j : Nat} (hi : i < A.n) (hj : j < A.n) : ∃ σ', fX11_witness σ (nI i) (nI j) = some (ansO (wit A.F A.n i j 4096), σ') ∧ RInv σ' A ∧ Lo σ σ' := by
  have hn := h.forms.2.1
  unfold fX11_witness
  obtain ⟨s, b1, b2, b3, b4⟩ := looks_ok h.forms h.lk
  have hs := h.same b2 b3 b4
  rw [b1, cl_s]
  refine loopM (fX11_witness_L6 (fun (m8 : Mem) (x9 : Int32) => some (x9, m8)) (fun (m11 : Mem) => some ((-1 : Int32), m11)) (nI i) (nI j)) (fX11_witness_L6_b (fun (m8 : Mem) (x9 : Int32) => some (x9, m8)) (fun (m11 : Mem) => some ((-1 : Int32), m11)) (nI i) (nI j)) (fun _ _ _ => rfl) 4096
    (fun u t => t = s ∧ wit A.F A.n i j 4096 = fndF (htP A.F A.n i j) u (4096 - u))
    (fun r => ∃ σ', r = some (ansO (wit A.F A.n i j 4096), σ') ∧ RInv σ' A ∧ Lo σ σ') ?_ ?_ 5000 0 s (by omega) (by omega) ⟨rfl, rfl⟩
  · rintro t rec ⟨rfl, h3⟩
    unfold fX11_witness_L6_b
    rw [if_neg (by decide), h3]
    exact ⟨t, rfl, hs, b2.lo⟩
  · rintro u t rec hu ⟨rfl, h3⟩
    unfold fX11_witness_L6_b
    have hb := inb_nI hu (show 4096 < 2 ^ 31 by decide)
    have hv14 := (mnN_lt (F := A.F) hn (nI u)).1
    rw [if_pos (show nI u < 4096 from nI_lt (b := 4096) hu (by decide)), ck_t hb, lt_e, ix_nI (by omega), (b4 u hu).2, (b4 u hu).1, mnR_mnr, nI_1, ck_t hb, has_ok t _ (show i < 32 by omega), cl_s, (b4 u hu).1, has_ok t _ (show j < 32 by omega), ck_t hb, cl_s, fitS_bt hn, fitS_bt hn]
    simp only [hi, hj, decide_true, Bool.true_and]
    rw [fndF_step hu] at h3
    by_cases e : mnN A.F A.n (nI u) = 13
    · rw [if_pos ((mnr13 _ hv14).mpr e)]
      by_cases f1 : fitP (A.F i) (nI u) = true
      · rw [if_pos f1, if_neg (by decide)]
        by_cases f2 : fitP (A.F j) (nI u) = true
        · left
          rw [if_pos f2, if_neg (by decide), h3, if_pos (by simp [htP, e, f1, f2])]
          exact ⟨t, rfl, hs, b2.lo⟩
        · right
          rw [if_neg f2, if_pos rfl]
          exact ⟨t, ⟨rfl, by rw [h3, if_neg (by simp [htP, f2])]⟩, rfl⟩
      · right
        rw [if_neg f1, if_pos rfl]
        exact ⟨t, ⟨rfl, by rw [h3, if_neg (by simp [htP, f1])]⟩, rfl⟩
    · right
      rw [if_neg (fun z => e ((mnr13 _ hv14).mp z))]
      exact ⟨t, ⟨rfl, by rw [h3, if_neg (by simp [htP, e])]⟩, rfl⟩
theorem wit_lt {F : Nat → Fm} {n i j v w : Nat} (h : wit F n i j v = some w) : w < v := by
  have := fndF_lt h
  omega
theorem ansO_neg {o : Option Nat} (h : ∀ w, o = some w → w < 4096) : (ansO o < 0) ↔ o = none := by
  cases o with
  | none => exact ⟨fun _ => rfl, fun _ => (by decide : (-1 : Int32) < 0)⟩
  | some w =>
    have := h w rfl
    refine ⟨fun z => absurd z (nI_pos (by omega)), fun z => by cases z⟩
theorem clP_wit {F : Nat → Fm} {n i j : Nat} (h : i < j) : clP F n 4096 i j = true ↔ ¬ wit F n i j 4096 = none := by
  unfold clP
  cases wit F n i j 4096 <;> simp [h]
theorem rclashB {σ : Mem} {A : Ab} (h : RInv σ A) {i K f0 : Nat} (hi : i < A.n) (hK : K < 2 ^ 31) (hf : f0 ≤ K) (y24 : Int32) (k1 : Mem → Int32 → Int32 → Option (Int32 × Mem)) (k2 : Mem → Int32 → Option (Int32 × Mem)) :
    ∃ o f m', fk (clP A.F A.n 4096 i) (i + 1) (A.n - (i + 1)) (K - f0) = (o, K - f) ∧ f ≤ K ∧ RInv m' A ∧ Lo σ m' ∧ fX11_clash_L42 k1 k2 (nI K) y24 (nI i) 13 σ (nI f0) (nI (i + 1)) = match o with | some j => k1 m' (nI j) (ansO (wit A.F A.n i j 4096)) | none => k2 m' (nI f) := by
  have hn := h.forms.2.1
  refine loopA (fX11_clash_L42 k1 k2 (nI K) y24 (nI i)) (fX11_clash_L42_b k1 k2 (nI K) y24 (nI i)) (fun _ _ _ _ => rfl) A.n
    (fun j m t => RInv m A ∧ Lo σ m ∧ i < j ∧ ∃ f, f ≤ K ∧ t = nI f ∧ fk (clP A.F A.n 4096 i) (i + 1) (A.n - (i + 1)) (K - f0) = fk (clP A.F A.n 4096 i) j (A.n - j) (K - f))
    (fun r => ∃ o f m', fk (clP A.F A.n 4096 i) (i + 1) (A.n - (i + 1)) (K - f0) = (o, K - f) ∧ f ≤ K ∧ RInv m' A ∧ Lo σ m' ∧ r = match o with | some j => k1 m' (nI j) (ansO (wit A.F A.n i j 4096)) | none => k2 m' (nI f)) ?_ ?_ 13 (i + 1) σ (nI f0) (by omega) (by omega) ⟨h, fun _ _ => rfl, by omega, f0, hf, rfl, rfl⟩
  · rintro m t rec ⟨h1, h2, h3, f, h4, rfl, e⟩
    unfold fX11_clash_L42_b
    rw [h1.forms.1, if_neg (nI_nlt (Nat.le_refl _) (by omega))]
    rw [Nat.sub_self, fk] at e
    exact ⟨none, f, m, e, h4, h1, h2, rfl⟩
  · rintro j m t rec hj ⟨h1, h2, h3, f, h4, rfl, e⟩
    unfold fX11_clash_L42_b
    obtain ⟨m1, a1, a2, a3⟩ := witness_ok h1 hi hj
    have hneg := ansO_neg (o := wit A.F A.n i j 4096) (fun w hw => wit_lt hw)
    rw [h1.forms.1, if_pos (nI_lt hj (by omega)), a1, cl_s, nI_1]
    simp only [lt_e]
    rw [show A.n - j = (A.n - (j + 1)) + 1 by omega, fk] at e
    have hlo : Lo σ m1 := fun q hq => (a3 q hq).trans (h2 q hq)
    by_cases c : wit A.F A.n i j 4096 = none
    · right
      have cc : ¬ clP A.F A.n 4096 i j = true := fun z => (clP_wit h3).mp z c
      rw [if_pos (hneg.mpr c), if_pos (hneg.mpr c)]
      rw [if_neg cc] at e
      exact ⟨m1, _, ⟨a2, hlo, by omega, f, h4, rfl, e⟩, by rw [show nI f + 0 = nI f from Int32.add_zero _]⟩
    · have cc : clP A.F A.n 4096 i j = true := (clP_wit h3).mpr c
      rw [if_neg (fun z => c (hneg.mp z)), if_neg (fun z => c (hneg.mp z))]
      rw [if_pos cc] at e
      by_cases z : f = K
      · left
        subst z
        rw [if_pos rfl]
        rw [Nat.sub_self, if_pos rfl] at e
        exact ⟨some j, f, m1, by rw [Nat.sub_self, e], h4, a2, hlo, rfl⟩
      · right
        rw [if_neg (fun y => z ((nI_eq (by omega) (by omega)).mp y))]
        rw [if_neg (by omega)] at e
        exact ⟨m1, _, ⟨a2, hlo, by omega, f + 1, by omega, rfl, by rw [e]; congr 1⟩, by rw [nI_1]⟩
theorem rs_clash (a b : Int32) : RS (fun σ => fX11_clash σ a b) (gClash a b) := by
  intro σ A h
  show ∃ σ', fX11_clash σ a b = _ ∧ _
  unfold fX11_clash gClash
  rw [lt_e]
  by_cases c : a < 0
  case pos => rw [if_pos c, if_neg (fun z => absurd c (by rw [Int32.not_lt]; exact z.1))]; exact rbad h
  have hn := h.forms.2.1
  rw [if_neg c, isInI σ b 0 1 0 1 rfl rfl, cl_s]
  by_cases d : 0 ≤ b ∧ b ≤ 1
  case neg => rw [if_neg d, if_pos rfl, if_neg (fun z => d z.2)]; exact rbad h
  obtain ⟨K, hK, rfl⟩ := nI_of c
  rw [if_pos d, if_neg (by decide), if_pos ⟨by rw [Int32.not_lt] at c; exact c, d⟩, ix_nI (by omega)]
  refine loopA (fX11_clash_L27 (fun (m15 : Mem) (x16 : Int32) (x17 : Int32) (x18 : Int32) => if b = (0 : Int32) then some ((((16 : Int32) * x16) + x17), m15) else some (x18, m15)) (fun (m20 : Mem) => some ((-1 : Int32), m20)) (nI K) b) (fX11_clash_L27_b (fun (m15 : Mem) (x16 : Int32) (x17 : Int32) (x18 : Int32) => if b = (0 : Int32) then some ((((16 : Int32) * x16) + x17), m15) else some (x18, m15)) (fun (m20 : Mem) => some ((-1 : Int32), m20)) (nI K) b) (fun _ _ _ _ => rfl) A.n
    (fun i m t => RInv m A ∧ Lo σ m ∧ ∃ f, f ≤ K ∧ t = nI f ∧ fo (clP A.F A.n 4096) A.n 0 A.n K = fo (clP A.F A.n 4096) A.n i (A.n - i) (K - f))
    (fun r => ∃ σ', r = some (ansC A b (fo (clP A.F A.n 4096) A.n 0 A.n K), σ') ∧ RInv σ' A ∧ Lo σ σ') ?_ ?_ 13 0 σ 0 (by omega) (by omega) ⟨h, fun _ _ => rfl, 0, by omega, rfl, rfl⟩
  · rintro m t rec ⟨h1, h2, f, h4, rfl, e⟩
    unfold fX11_clash_L27_b
    rw [h1.forms.1, if_neg (nI_nlt (Nat.le_refl _) (by omega)), e, Nat.sub_self, fo]
    exact ⟨m, rfl, h1, h2⟩
  · rintro i m t rec hi ⟨h1, h2, f, h4, rfl, e⟩
    unfold fX11_clash_L27_b
    rw [h1.forms.1, if_pos (nI_lt hi (by omega)), lt_e, nI_1]
    obtain ⟨o, f2, m1, b1, b2, b3, b4, b5⟩ := rclashB h1 hi hK h4 b (fun (m31 : Mem) (x32 : Int32) (x33 : Int32) => if b = (0 : Int32) then some ((((16 : Int32) * nI i) + x32), m31) else some (x33, m31)) (fun (m36 : Mem) (x37 : Int32) => rec m36 x37 (nI (i + 1)))
    rw [b5]
    rw [show A.n - i = (A.n - (i + 1)) + 1 by omega, fo, b1] at e
    have hlo : Lo σ m1 := fun q hq => (b4 q hq).trans (h2 q hq)
    cases o with
    | some j =>
      left
      rw [e]
      refine ⟨m1, ?_, b3, hlo⟩
      simp only [e16, ansC]
      by_cases z : b = 0
      · rw [if_pos z, if_pos z]
      · rw [if_neg z, if_neg z]
    | none => exact Or.inr ⟨m1, nI f2, ⟨b3, hlo, f2, b2, rfl, e⟩, rfl⟩
