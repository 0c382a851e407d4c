/-! ===== the fields of a form, in their order ===== -/
theorem loopMc {S R : Type} (ctr : Nat → Int32) (f : Nat → S → Int32 → Option R) (b : (S → Int32 → Option R) → S → Int32 → Option R) (hf : ∀ n s x, f (n + 1) s x = b (f n) s x) (N : Nat) (I : Nat → S → Prop) (Q : Option R → Prop)
    (he : ∀ m rec, I N m → Q (b rec m (ctr N))) (h : ∀ i m rec, i < N → I i m → Q (b rec m (ctr i)) ∨ ∃ m', I (i + 1) m' ∧ b rec m (ctr i) = rec m' (ctr (i + 1))) : ∀ fuel i m, i ≤ N → N - i < fuel → I i m → Q (f fuel m (ctr i)) := by
  intro fuel
  induction fuel with
  | zero => intro i m _ hn; omega
  | succ n ih =>
    intro i m hi hn hI
    rw [hf]
    by_cases e : i = N
    · subst e; exact he _ _ hI
    · rcases h i m (f n) (by omega) hI with h1 | ⟨m', h2, h3⟩
      · exact h1
      · rw [h3]; exact ih (i + 1) m' (by omega) (by omega) h2
theorem loopDc {S T U R : Type} (ctr : Nat → Int32) (f : Nat → S → T → U → Int32 → Option R) (b : (S → T → U → Int32 → Option R) → S → T → U → Int32 → Option R) (hf : ∀ n s t u x, f (n + 1) s t u x = b (f n) s t u x) (N : Nat) (I : Nat → S → T → U → Prop) (Q : Option R → Prop)
    (he : ∀ m t u rec, I N m t u → Q (b rec m t u (ctr N))) (h : ∀ i m t u rec, i < N → I i m t u → Q (b rec m t u (ctr i)) ∨ ∃ m' t' u', I (i + 1) m' t' u' ∧ b rec m t u (ctr i) = rec m' t' u' (ctr (i + 1))) : ∀ fuel i m t u, i ≤ N → N - i < fuel → I i m t u → Q (f fuel m t u (ctr i)) := by
  intro fuel
  induction fuel with
  | zero => intro i m t u _ hn; omega
  | succ n ih =>
    intro i m t u hi hn hI
    rw [hf]
    by_cases e : i = N
    · subst e; exact he _ _ _ _ hI
    · rcases h i m t u (f n) (by omega) hI with h1 | ⟨m', t', u', h2, h3⟩
      · exact h1
      · rw [h3]; exact ih (i + 1) m' t' u' (by omega) (by omega) h2
theorem cnt_pos {p : Nat → Bool} : ∀ {n : Nat}, 0 < cnt p n ↔ ∃ b, b < n ∧ p b = true
  | 0 => by simp [cnt]
  | n + 1 => by
    rw [cnt]
    have ih := cnt_pos (p := p) (n := n)
    constructor
    · intro h
      by_cases e : p n = true
      · exact ⟨n, by omega, e⟩
      · rw [if_neg e] at h
        obtain ⟨b, h1, h2⟩ := ih.mp h
        exact ⟨b, by omega, h2⟩
    · rintro ⟨b, h1, h2⟩
      by_cases e : b = n
      · subst e; rw [if_pos h2]; omega
      · have := ih.mpr ⟨b, by omega, h2⟩; omega
theorem lof_iff {c l : Nat} : lof c = some l ↔ l < 8 ∧ c = sgn l :=
  ⟨fun h => ⟨(lof_sgn h).1, (lof_sgn h).2.symm⟩, fun h => by rw [h.2]; exact sgn_lof l h.1⟩
theorem fp_lof {pt : Nat → Nat} {l b : Nat} (hl : l < 8) : fp pt l b = true ↔ lof (pt b) = some l := by
  rw [lof_iff]; simp [fp, hl]
theorem ordL_mem (pt : Nat → Nat) : ∀ m, m ≤ 12 → ∀ l, l ∈ ordL pt m ↔ ∃ b, b < 12 ∧ 12 ≤ b + m ∧ lof (pt b) = some l
  | 0, _, l => by
    rw [ordL]
    constructor
    · intro h; cases h
    · rintro ⟨b, h1, h2, _⟩; omega
  | m + 1, hm, l => by
    have ih := ordL_mem pt m (by omega) l
    have key : (∃ b, b < 12 ∧ 12 ≤ b + (m + 1) ∧ lof (pt b) = some l) ↔ (l ∈ ordL pt m ∨ lof (pt (11 - m)) = some l) := by
      rw [ih]
      constructor
      · rintro ⟨b, h1, h2, h3⟩
        by_cases e : b = 11 - m
        · subst e; exact Or.inr h3
        · exact Or.inl ⟨b, h1, by omega, h3⟩
      · rintro (⟨b, h1, h2, h3⟩ | h)
        · exact ⟨b, h1, by omega, h3⟩
        · exact ⟨11 - m, by omega, by omega, h⟩
    rw [key, ordL]
    cases hc : lof (pt (11 - m)) with
    | none => simp
    | some k =>
      by_cases e : k ∈ ordL pt m
      · simp only [e, if_true]
        constructor
        · intro h; exact Or.inl h
        · rintro (h | h)
          · exact h
          · cases h; exact e
      · simp only [e, if_false, List.mem_append, List.mem_singleton, Option.some.injEq]
        constructor
        · rintro (h | h)
          · exact Or.inl h
          · exact Or.inr h.symm
        · rintro (h | h)
          · exact Or.inl h
          · exact Or.inr h.symm
theorem lts_mem {f : Fm} {l : Nat} : l ∈ lts f ↔ l < 8 ∧ 0 < cnt (fl f l) 12 := by
  unfold lts
  rw [ordL_mem _ 12 (Nat.le_refl _), cnt_pos]
  constructor
  · rintro ⟨b, h1, _, h3⟩
    have hl := (lof_iff.mp h3).1
    exact ⟨hl, b, h1, (fp_lof hl).mpr h3⟩
  · rintro ⟨hl, b, h1, h2⟩
    exact ⟨b, h1, by omega, (fp_lof hl).mp h2⟩
theorem cnt_ins {p q : Nat → Bool} {l : Nat} (hp : p l = false) (hq : ∀ x, q x = (p x || decide (x = l))) : ∀ {N : Nat}, cnt q N = cnt p N + if l < N then 1 else 0
  | 0 => rfl
  | N + 1 => by
    rw [cnt, cnt, cnt_ins hp hq (N := N), hq N]
    by_cases e : N = l
    · subst e
      simp [hp]
    · have h1 : (l < N + 1) ↔ (l < N) := by omega
      simp only [e, decide_false, Bool.or_false, h1]
      omega
theorem ordL_cnt (pt : Nat → Nat) : ∀ m, m ≤ 12 → (ordL pt m).length = cnt (fun l => decide (l ∈ ordL pt m)) 8
  | 0, _ => by simp [ordL, cnt]
  | m + 1, hm => by
    have ih := ordL_cnt pt m (by omega)
    cases hc : lof (pt (11 - m)) with
    | none =>
      have : ordL pt (m + 1) = ordL pt m := by rw [ordL, hc]
      rw [this]; exact ih
    | some k =>
      by_cases e : k ∈ ordL pt m
      · have : ordL pt (m + 1) = ordL pt m := by rw [ordL, hc]; simp only [e, if_true]
        rw [this]; exact ih
      · have : ordL pt (m + 1) = ordL pt m ++ [k] := by rw [ordL, hc]; simp only [e, if_false]
        rw [this, List.length_append, ih]
        have hk := (lof_iff.mp hc).1
        rw [cnt_ins (p := fun l => decide (l ∈ ordL pt m)) (q := fun l => decide (l ∈ ordL pt m ++ [k])) (l := k) (by simpa using e) (fun x => by simp [List.mem_append])]
        rw [if_pos hk]; rfl
theorem lts_len (f : Fm) : (lts f).length = cnt (fun l => decide (0 < cnt (fl f l) 12)) 8 := by
  have := ordL_cnt (fpt f) 12 (Nat.le_refl _)
  rw [show ordL (fpt f) 12 = lts f from rfl] at this
  rw [this]
  exact cnt_congr (fun l hl => by
    have := lts_mem (f := f) (l := l)
    by_cases e : 0 < cnt (fl f l) 12
    · simp [this, e, hl]
    · simp [this, e])
theorem lts_len8 (f : Fm) : (lts f).length ≤ 8 := by rw [lts_len]; exact cnt_le _ 8
theorem ordL_pre {pt : Nat → Nat} {m i l : Nat} (h : (ordL pt m)[i]? = some l) : (ordL pt (m + 1))[i]? = some l := by
  have hi : i < (ordL pt m).length := by
    rw [List.getElem?_eq_some_iff] at h; exact h.1
  rw [ordL]
  cases lof (pt (11 - m)) with
  | none => exact h
  | some k =>
    by_cases e : k ∈ ordL pt m
    · simp only [e, if_true]; exact h
    · simp only [e, if_false]; rw [List.getElem?_append_left hi]; exact h
theorem ordL_pres {pt : Nat → Nat} {m i l : Nat} (h : (ordL pt m)[i]? = some l) : ∀ d, (ordL pt (m + d))[i]? = some l
  | 0 => h
  | d + 1 => ordL_pre (ordL_pres h d)
/-- the letter of a sign, in both -/
def lfI (o : Option Nat) (i : Nat) : Int32 := match o with
  | some l => if l < i then nI l else -1
  | none => -1
theorem rletter {σ : Mem} {v : Int32} {o : Option Nat} (h : ∀ k, k < 8 → (sV 3 k = v ↔ o = some k)) (ho : ∀ k, o = some k → k < 8) : fX11_letterOf σ v = some (ansO o, σ) := by
  unfold fX11_letterOf
  refine loopM (fX11_letterOf_L4 (fun (x6 : Int32) => some (x6, σ)) σ v) (fX11_letterOf_L4_b (fun (x6 : Int32) => some (x6, σ)) σ v) (fun _ _ _ => rfl) 8
    (fun i t => t = lfI o i)
    (fun r => r = some (ansO o, σ)) ?_ ?_ 5000 0 (-1) (by omega) (by omega) (by cases o <;> simp [lfI])
  · rintro t rec rfl
    unfold fX11_letterOf_L4_b
    rw [if_neg (by decide)]
    cases o with
    | none => rfl
    | some l => simp only [lfI, ho l rfl, if_true]; rfl
  · rintro i t rec hi rfl
    right
    unfold fX11_letterOf_L4_b
    rw [if_pos (show nI i < 8 from nI_lt (b := 8) hi (by decide)), ck_t (inb_nI hi (by decide)), ix_nI (by omega), lt_e, nI_1]
    by_cases e : sV 3 i = v
    · rw [if_pos e]
      refine ⟨_, ?_, rfl⟩
      rw [(h i hi).mp e]
      simp [lfI]
    · rw [if_neg e]
      refine ⟨_, ?_, rfl⟩
      cases o with
      | none => rfl
      | some l =>
        have : ¬ l = i := fun z => e ((h i hi).mpr (by rw [z]))
        have h2 : (l < i + 1) ↔ (l < i) := by omega
        simp only [lfI, h2]
theorem rletterN (σ : Mem) {c : Nat} (hc : c < 2 ^ 31) : fX11_letterOf σ (nI c) = some (ansO (lof c), σ) :=
  rletter (fun k hk => by
    rw [sV3 k hk, nI_eq (by have := sgn_lt k hk; omega) hc, lof_iff]
    constructor
    · intro e; exact ⟨hk, e.symm⟩
    · intro e; exact e.2.symm) (fun k h => (lof_iff.mp h).1)
theorem rletter1 (σ : Mem) : fX11_letterOf σ (-1) = some (-1, σ) :=
  rletter (o := none) (fun k hk => by
    rw [sV3 k hk]
    have := sgn_lt k hk
    constructor
    · intro e; exact absurd (nI_pos' (show sgn k < 2 ^ 31 by omega)) (by rw [e]; decide)
    · intro e; cases e) (fun k h => by cases h)
theorem cletterN (σ : Mem) {c : Nat} (hc : c < 256) : fX10_letterOf σ (nI c) = some (ansO (lof c), σ) := by
  unfold fX10_letterOf lof
  simp only [lt_e]
  by_cases a : c < 119
  · rw [if_pos (show nI c < 119 from nI_lt (b := 119) a (by decide)), if_neg (show ¬ (119 ≤ c ∧ c ≤ 122) by omega)]
    by_cases b : c < 87
    · rw [if_pos (show nI c < 87 from nI_lt (b := 87) b (by decide)), if_neg (show ¬ (87 ≤ c ∧ c ≤ 90) by omega)]; rfl
    · rw [if_neg (show ¬ nI c < 87 from nI_nlt (b := 87) (by omega) (by omega))]
      by_cases d : c ≤ 90
      · rw [if_neg (show ¬ 90 < nI c from nI_nlt (a := 90) d (by omega)), if_pos (show 87 ≤ c ∧ c ≤ 90 by omega), show (87 : Int32) = nI 87 from rfl, pk_sub (by omega), show (4 : Int32) = nI 4 from rfl, nI_add]; rfl
      · rw [if_pos (show 90 < nI c from nI_lt (a := 90) (by omega) (by omega)), if_neg (show ¬ (87 ≤ c ∧ c ≤ 90) by omega)]; rfl
  · rw [if_neg (show ¬ nI c < 119 from nI_nlt (b := 119) (by omega) (by omega))]
    by_cases d : c ≤ 122
    · rw [if_neg (show ¬ 122 < nI c from nI_nlt (a := 122) d (by omega)), if_pos (show 119 ≤ c ∧ c ≤ 122 by omega), show (119 : Int32) = nI 119 from rfl, pk_sub (by omega)]; rfl
    · rw [if_pos (show 122 < nI c from nI_lt (a := 122) (by omega) (by omega)), if_neg (show ¬ nI c < 87 from nI_nlt (b := 87) (by omega) (by omega)), if_pos (show 90 < nI c from nI_lt (a := 90) (by omega) (by omega)), if_neg (show ¬ (119 ≤ c ∧ c ≤ 122) by omega), if_neg (show ¬ (87 ≤ c ∧ c ≤ 90) by omega)]; rfl
theorem cletter1 (σ : Mem) : fX10_letterOf σ (-1) = some (-1, σ) := rfl
theorem mkS0 {p : Nat → Bool} : mkS p 12 = 0 ↔ ¬ 0 < cnt p 12 := by
  rw [eq0_bt, cnt_pos]
  constructor
  · rintro h ⟨b, h1, h2⟩
    have := h b (by omega)
    rw [bt_mkS _ (by decide)] at this
    simp [h1, h2] at this
  · intro h j _
    rw [bt_mkS _ (by decide)]
    by_cases e : j < 12
    · cases hp : p j with
      | false => simp
      | true => exact absurd ⟨j, e, hp⟩ h
    · simp [e]
theorem fieldsOf_ok {σ : Mem} {i : Nat} {f : Fm} (h : RForm σ i f) : fX11_fieldsOf σ (nI i) = some (nI (lts f).length, σ) := by
  unfold fX11_fieldsOf
  rw [lts_len]
  refine loopA (fX11_fieldsOf_L4 (fun (m7 : Mem) (x8 : Int32) => some (x8, m7)) (nI i)) (fX11_fieldsOf_L4_b (fun (m7 : Mem) (x8 : Int32) => some (x8, m7)) (nI i)) (fun _ _ _ _ => rfl) 8
    (fun k m t => m = σ ∧ t = nI (cnt (fun l => decide (0 < cnt (fl f l) 12)) k))
    (fun r => r = some (nI (cnt (fun l => decide (0 < cnt (fl f l) 12)) 8), σ)) ?_ ?_ 5000 0 σ 0 (by omega) (by omega) ⟨rfl, rfl⟩
  · rintro m t rec ⟨rfl, rfl⟩
    unfold fX11_fieldsOf_L4_b
    rw [if_neg (by decide)]
  · rintro k m t rec hk ⟨rfl, rfl⟩
    right
    unfold fX11_fieldsOf_L4_b
    rw [if_pos (show nI k < 8 from nI_lt (b := 8) hk (by decide)), bitsOf_ok h.1 hk, cl_s, show nI k + 1 = nI (k + 1) from nI_1 k]
    simp only [lt_e]
    refine ⟨m, _, ⟨rfl, rfl⟩, ?_⟩
    rw [cnt]
    by_cases e : 0 < cnt (fl f k) 12
    · rw [if_neg (fun z => mkS0.mp z e), if_pos (by simpa using e), nI_1]
    · rw [if_pos (mkS0.mpr e), if_neg (by simpa using e)]
      show rec m (nI _ + nI 0) _ = _
      rw [nI_add]
theorem dn12 {i : Nat} (h : i < 12) : nI (12 - i) - 1 = nI (11 - i) := by
  rw [show 12 - i = (11 - i) + 1 by omega, m1_nI]
theorem dn12' {i : Nat} (h : i < 12) : nI (11 - i) + (-1) = nI (12 - (i + 1)) - 1 := by
  rw [show 12 - (i + 1) = 11 - i by omega]
  exact (Int32.sub_eq_add_neg _ _).symm
theorem fieldAt_ok {σ : Mem} {i : Nat} {f : Fm} (h : RForm σ i f) {I : Nat} (hI : I < 2 ^ 31) : fX11_fieldAt σ (nI i) (nI I) = some (ansO (lts f)[I]?, σ) := by
  unfold fX11_fieldAt
  refine loopDc (fun k => nI (12 - k) - 1) (fX11_fieldAt_L9 (fun (m9 : Mem) (x10 : Int32) => some (x10, m9)) (fun (m12 : Mem) => some ((-1 : Int32), m12)) (nI i) (nI I)) (fX11_fieldAt_L9_b (fun (m9 : Mem) (x10 : Int32) => some (x10, m9)) (fun (m12 : Mem) => some ((-1 : Int32), m12)) (nI i) (nI I)) (fun _ _ _ _ _ => rfl) 12
    (fun k m t u => m = σ ∧ (∀ l, l < 8 → bt t l = decide (l ∈ ordL (fpt f) k)) ∧ u = nI (ordL (fpt f) k).length ∧ (ordL (fpt f) k).length ≤ I)
    (fun r => r = some (ansO (lts f)[I]?, σ)) ?_ ?_ 5000 0 σ 0 0 (by omega) (by omega) ⟨rfl, fun l _ => by simp [ordL, bt_0], rfl, Nat.zero_le _⟩
  · rintro m t u rec ⟨rfl, h1, rfl, h3⟩
    unfold fX11_fieldAt_L9_b
    rw [if_pos (by decide)]
    have : (lts f)[I]? = none := by rw [List.getElem?_eq_none_iff]; exact h3
    rw [this]; rfl
  · rintro k m t u rec hk ⟨rfl, h1, rfl, h3⟩
    unfold fX11_fieldAt_L9_b
    have hlen : (ordL (fpt f) k).length ≤ 8 := by rw [ordL_cnt _ _ (by omega)]; exact cnt_le _ 8
    have hb := (h.1.2 (11 - k) (by omega)).2
    rw [dn12 hk, if_neg (nI_pos (by omega)), signAt_ok h.1 (by omega), cl_s, rletterN m (by omega), cl_s, dn12' hk]
    simp only [lt_e]
    cases hc : lof (fpt f (11 - k)) with
    | none =>
      right
      rw [if_pos (show ansO none < 0 by decide)]
      have he : ordL (fpt f) (k + 1) = ordL (fpt f) k := by rw [ordL, hc]
      exact ⟨m, t, _, ⟨rfl, by rw [he]; exact h1, by rw [he], by rw [he]; exact h3⟩, rfl⟩
    | some l =>
      have hl := (lof_iff.mp hc).1
      have hal : ansO (some l) = nI l := rfl
      simp only [hal]
      rw [if_neg (nI_pos (show l < 2 ^ 31 by omega)), has_ok m t (show l < 32 by omega), cl_s, h1 l hl]
      by_cases e : l ∈ ordL (fpt f) k
      · right
        have he : ordL (fpt f) (k + 1) = ordL (fpt f) k := by rw [ordL, hc]; simp only [e, if_true]
        rw [if_pos (show decide (l ∈ ordL (fpt f) k) = true by simpa using e), if_neg (by decide)]
        exact ⟨m, t, _, ⟨rfl, by rw [he]; exact h1, by rw [he], by rw [he]; exact h3⟩, rfl⟩
      · have he : ordL (fpt f) (k + 1) = ordL (fpt f) k ++ [l] := by rw [ordL, hc]; simp only [e, if_false]
        rw [if_neg (show ¬ decide (l ∈ ordL (fpt f) k) = true by simpa using e), if_pos rfl]
        by_cases z : (ordL (fpt f) k).length = I
        · left
          rw [if_pos (by rw [z])]
          have h4 : (ordL (fpt f) (k + 1))[I]? = some l := by rw [he, ← z]; simp
          have h5 := ordL_pres h4 (12 - (k + 1))
          rw [show k + 1 + (12 - (k + 1)) = 12 by omega] at h5
          rw [show (lts f)[I]? = some l from h5]; rfl
        · right
          rw [if_neg (fun q => z ((nI_eq (by omega) (by omega)).mp q))]
          refine ⟨m, _, _, ⟨rfl, fun x hx => ?_, ?_, ?_⟩, rfl⟩
          · rw [bt_or, bt_one (by omega), h1 x hx, he]
            simp [List.mem_append]
          · rw [he, List.length_append, nI_1]; rfl
          · rw [he, List.length_append]; simp; omega
