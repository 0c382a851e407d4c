/-! ===== operations, the first ===== -/
theorem CInv.kx {σ σ' : Mem} {A : Ab} (h : CInv σ A) (g : Kx A.n A.F σ σ') : CInv σ' A := by
  have hs := g.2
  exact ⟨g.1, h.sg.congr (fun q a b => hs q (by omega)), h.thr.congr (fun q a b c _ => hs q c), h.tape.congr (hs _ (by decide)) (hs _ (by decide)), h.line.congr (hs _ (by decide)) (hs _ (by decide)), ⟨h.now.1.congr (fun q a b => hs q (by omega)), h.now.2⟩, h.past.congr (by rw [hs 0 (by decide)]) (by rw [hs 0 (by decide)]) (fun q a b => hs q (by omega)), h.kept.congr (by rw [hs 0 (by decide)]) (fun q a b => hs q (by omega)), fun i hi => by rw [hs 8 (by decide)]; exact h.ref i hi⟩
theorem Kx.hi {n : Nat} {F : Nat → Fm} {σ σ' : Mem} (g : Kx n F σ σ') : Hi σ σ' := fun k hk => g.2 k (by omega)
theorem RInv.same {σ σ' : Mem} {A : Ab} (h : RInv σ A) (g : RSame σ σ') (h1 : σ' 362 11 = 1) (h2 : RTab σ' A.n A.F) : RInv σ' A :=
  h.mk2 (fun q a b c d => g.1 q (by omega) c d (by omega)) (fun j _ hj => g.2 j hj) (Or.inr ⟨h1, h2⟩)
theorem RSame.lo {σ σ' : Mem} (g : RSame σ σ') : Lo σ σ' := fun k hk => g.1 k (by omega) (by omega) (by omega) (by omega)
theorem word_of {a : Int32} (h : 0 ≤ a ∧ a ≤ 4095) : ∃ w, w < 4096 ∧ a = nI w := by
  obtain ⟨i, hi, e⟩ := rngL (n := 4095) h (by decide)
  exact ⟨i, by omega, e⟩
theorem nI_no {n : Nat} (h : n < 14) : ¬ nI n = -1 ∧ ¬ nI n = -2 := by
  have : ∀ k, k < 14 → ¬ nI k = -1 ∧ ¬ nI k = -2 := by decide
  exact this n h
/-- wipe -/
def gWipe (A : Ab) : Int32 × Ab := (nI A.tc, (A.n, A.F, 0, A.tp, A.lc, A.ln, A.d, A.pc, A.past, A.kept, A.rf))
theorem CInv.tp0 {σ : Mem} {A : Ab} (h : CInv σ A) : CInv (sto σ 281 1 0) (gWipe A).2 := by
  have hs : ∀ q, q ≠ 281 → sto σ 281 1 0 q = σ q := fun q hq => sto_ne hq
  exact ⟨h.mean.congr (fun q a b => hs q (by omega)), h.sg.congr (fun q a b => hs q (by omega)), h.thr.congr (fun q a b _ _ => hs q (by omega)), ⟨sto_eq, Nat.zero_le _, fun i hi => absurd hi (Nat.not_lt_zero i)⟩, h.line.congr (hs _ (by decide)) (hs _ (by decide)), ⟨h.now.1.congr (fun q a b => hs q (by omega)), h.now.2⟩, h.past.congr (by rw [hs 0 (by decide)]) (by rw [hs 0 (by decide)]) (fun q a b => hs q (by omega)), h.kept.congr (by rw [hs 0 (by decide)]) (fun q a b => hs q (by omega)), fun i hi => by rw [hs 8 (by decide)]; exact h.ref i hi⟩
theorem RInv.tp0 {σ : Mem} {A : Ab} (h : RInv σ A) : RInv (sto σ 362 13 0) (gWipe A).2 := by
  have hs : ∀ q, q ≠ 362 → sto σ 362 13 0 q = σ q := fun q hq => sto_ne hq
  have ho : ∀ i, i ≠ 13 → sto σ 362 13 0 362 i = σ 362 i := fun i hi => sto_nj hi
  exact ⟨h.forms.congr (ho _ (by decide)) (fun q a b => hs q (by omega)), h.lk.congr (ho _ (by decide)) (hs _ (by decide)) (hs _ (by decide)), ⟨sto_eq, Nat.zero_le _, fun i hi => absurd hi (Nat.not_lt_zero i)⟩, h.line.congr (ho _ (by decide)) (hs _ (by decide)), ⟨h.now.1.congr (hs _ (by decide)), h.now.2⟩, h.past.congr (ho _ (by decide)) (hs _ (by decide)), h.kept.congr (ho _ (by decide)) (ho _ (by decide)) (fun q a b => hs q (by omega)), fun i hi => by rw [hs 363 (by decide)]; exact h.ref i hi⟩
theorem cs_wipe : CS fX10_wipe gWipe := by
  intro σ A h
  refine ⟨_, ?_, h.tp0, fun k hk => sto_ne (by omega)⟩
  unfold fX10_wipe
  rw [lt_e, lt_e, h.tape.1]; rfl
theorem rs_wipe : RS fX11_wipe gWipe := by
  intro σ A h
  refine ⟨_, ?_, h.tp0, fun k hk => sto_ne (by omega)⟩
  unfold fX11_wipe
  rw [lt_e, lt_e, h.tape.1]; rfl
/-- means, fits -/
def gMeans (a : Int32) (A : Ab) : Int32 × Ab := if 0 ≤ a ∧ a ≤ 4095 then (mnR A.F A.n a, A) else bad A
def gFits (a : Int32) (A : Ab) : Int32 × Ab := if 0 ≤ a ∧ a ≤ 4095 then (fitS A.F A.n a, A) else bad A
theorem cs_means (a : Int32) : CS (fun σ => fX10_means σ a) (gMeans a) := by
  intro σ A h
  show ∃ σ', fX10_means σ a = _ ∧ _
  unfold fX10_means gMeans
  rw [cword, cl_s]
  by_cases c : 0 ≤ a ∧ a ≤ 4095
  · obtain ⟨w, hw, e⟩ := word_of c
    rw [if_pos c, if_pos c, if_neg (by decide), e]
    obtain ⟨s, b1, b2⟩ := meaning_ex h.mean hw
    rw [b1, cl_s]
    refine ⟨s, ?_, h.kx b2, b2.hi⟩
    have hm := mnN_lt (F := A.F) h.mean.1.2.1 (nI w)
    show _ = some (mnR A.F A.n (nI w), s)
    unfold mnR
    by_cases e1 : mnN A.F A.n (nI w) = 12
    · rw [e1, if_pos (show nI 12 = 12 from rfl), if_pos rfl]
    · rw [if_neg (show ¬ nI (mnN A.F A.n (nI w)) = 12 from fun z => e1 ((nI_eq (b := 12) (by omega) (by decide)).mp z)), if_neg e1]
      by_cases e2 : mnN A.F A.n (nI w) = 13
      · rw [e2, if_pos (show nI 13 = 13 from rfl), if_pos rfl]
      · rw [if_neg (show ¬ nI (mnN A.F A.n (nI w)) = 13 from fun z => e2 ((nI_eq (b := 13) (by omega) (by decide)).mp z)), if_neg e2]
  · rw [if_neg c, if_neg c, if_pos rfl]
    exact cbad h
theorem rs_means (a : Int32) : RS (fun σ => fX11_means σ a) (gMeans a) := by
  intro σ A h
  show ∃ σ', fX11_means σ a = _ ∧ _
  unfold fX11_means gMeans
  rw [rword, cl_s]
  by_cases c : 0 ≤ a ∧ a ≤ 4095
  · obtain ⟨w, hw, e⟩ := word_of c
    rw [if_pos c, if_pos c, if_neg (by decide), e]
    obtain ⟨s, b1, b2, b3, b4⟩ := meant_ok h.forms h.lk hw
    rw [b1, cl_s]
    exact ⟨s, rfl, h.same b2 b3 b4, b2.lo⟩
  · rw [if_neg c, if_neg c, if_pos rfl]
    exact rbad h
theorem cs_fits (a : Int32) : CS (fun σ => fX10_fits σ a) (gFits a) := by
  intro σ A h
  show ∃ σ', fX10_fits σ a = _ ∧ _
  unfold fX10_fits gFits
  rw [cword, cl_s]
  by_cases c : 0 ≤ a ∧ a ≤ 4095
  · obtain ⟨w, hw, e⟩ := word_of c
    rw [if_pos c, if_pos c, if_neg (by decide), e]
    obtain ⟨s, b1, b2⟩ := fitting_ex h.mean hw
    rw [b1, cl_s]
    exact ⟨s, rfl, h.kx b2, b2.hi⟩
  · rw [if_neg c, if_neg c, if_pos rfl]
    exact cbad h
theorem rs_fits (a : Int32) : RS (fun σ => fX11_fits σ a) (gFits a) := by
  intro σ A h
  show ∃ σ', fX11_fits σ a = _ ∧ _
  unfold fX11_fits gFits
  rw [rword, cl_s]
  by_cases c : 0 ≤ a ∧ a ≤ 4095
  · obtain ⟨w, hw, e⟩ := word_of c
    rw [if_pos c, if_pos c, if_neg (by decide), e]
    obtain ⟨s, b1, b2, b3, b4⟩ := looks_ok h.forms h.lk
    rw [b1, cl_s, ck_t (inb_nI hw (by decide)), ix_nI (by omega), (b4 w hw).1]
    exact ⟨s, rfl, h.same b2 b3 b4, b2.lo⟩
  · rw [if_neg c, if_neg c, if_pos rfl]
    exact rbad h
/-- over -/
def gOver (a b : Int32) (A : Ab) : Int32 × Ab := if (0 ≤ a ∧ a < nI A.n) ∧ (0 ≤ b ∧ b < nI A.n) ∧ ¬ a = b then (if ovrP (A.F (ix a)) (A.F (ix b)) = true then 1 else 0, A) else bad A
theorem cs_over (a b : Int32) : CS (fun σ => fX10_over σ a b) (gOver a b) := by
  intro σ A h
  show ∃ σ', fX10_over σ a b = _ ∧ _
  have hn := h.mean.1.2.1
  unfold fX10_over gOver
  rw [has4 h, cl_s, lt_e]
  by_cases c : 0 ≤ a ∧ a < nI A.n
  · rw [if_pos c, if_neg (by decide), has4 h, cl_s]
    by_cases d : 0 ≤ b ∧ b < nI A.n
    · rw [if_pos d, if_neg (by decide)]
      by_cases e : a = b
      · rw [if_pos e, if_neg (fun z => z.2.2 e)]
        exact cbad h
      · rw [if_neg e, if_pos ⟨c, d, e⟩]
        obtain ⟨i, hi, ea⟩ := rng c.1 c.2 (by omega)
        obtain ⟨j, hj, eb⟩ := rng d.1 d.2 (by omega)
        subst ea; subst eb
        rw [ck_t (inb_nI (show i < 12 by omega) (by decide)), ck_t (inb_nI (show j < 12 by omega) (by decide)), ix_nI (by omega), ix_nI (by omega), cIsOver_ok (h.mean.1.2.2 i hi).1 (h.mean.1.2.2 j hj).1, cl_s]
        refine ⟨σ, ?_, h, fun _ _ => rfl⟩
        by_cases o : ovrP (A.F i) (A.F j) = true
        · rw [if_pos o, if_neg (by decide)]
        · rw [if_neg o, if_pos rfl]
    · rw [if_neg d, if_pos rfl, if_neg (fun z => d z.2.1)]
      exact cbad h
  · rw [if_neg c, if_pos rfl, if_neg (fun z => c z.1)]
    exact cbad h
theorem rs_over (a b : Int32) : RS (fun σ => fX11_over σ a b) (gOver a b) := by
  intro σ A h
  show ∃ σ', fX11_over σ a b = _ ∧ _
  have hn := h.forms.2.1
  unfold fX11_over gOver
  rw [isForm_ok h, cl_s, lt_e]
  by_cases c : 0 ≤ a ∧ a < nI A.n
  · rw [if_pos c, if_neg (by decide), isForm_ok h, cl_s]
    by_cases d : 0 ≤ b ∧ b < nI A.n
    · rw [if_pos d, if_neg (by decide)]
      by_cases e : a = b
      · rw [if_pos e, if_neg (fun z => z.2.2 e)]
        exact rbad h
      · rw [if_neg e, if_pos ⟨c, d, e⟩]
        obtain ⟨i, hi, ea⟩ := rng c.1 c.2 (by omega)
        obtain ⟨j, hj, eb⟩ := rng d.1 d.2 (by omega)
        subst ea; subst eb
        rw [ix_nI (by omega), ix_nI (by omega), rIsOver_ok (h.forms.2.2 i hi).1 (h.forms.2.2 j hj).1, cl_s]
        refine ⟨σ, ?_, h, fun _ _ => rfl⟩
        by_cases o : ovrP (A.F i) (A.F j) = true
        · rw [if_pos o, if_neg (by decide)]
        · rw [if_neg o, if_pos rfl]
    · rw [if_neg d, if_pos rfl, if_neg (fun z => d z.2.1)]
      exact rbad h
  · rw [if_neg c, if_pos rfl, if_neg (fun z => c z.1)]
    exact rbad h
/-- refused, count, cell -/
def gRefused (a : Int32) (A : Ab) : Int32 × Ab := if 0 ≤ a ∧ a ≤ 2 then (A.rf (ix a), A) else bad A
theorem cs_refused (a : Int32) : CS (fun σ => fX10_refused σ a) (gRefused a) := by
  intro σ A h
  show ∃ σ', fX10_refused σ a = _ ∧ _
  unfold fX10_refused gRefused
  rw [within_ok, cl_s]
  by_cases c : 0 ≤ a ∧ a ≤ 2
  · obtain ⟨w, hw, e⟩ := rngL (n := 2) c (by decide)
    rw [if_pos c, if_pos c, if_neg (by decide), e, ck_t (inb_nI (show w < 3 by omega) (by decide)), ix_nI (by omega), h.ref w (by omega)]
    exact ⟨σ, rfl, h, fun _ _ => rfl⟩
  · rw [if_neg c, if_neg c, if_pos rfl]
    exact cbad h
theorem rs_refused (a : Int32) : RS (fun σ => fX11_refused σ a) (gRefused a) := by
  intro σ A h
  show ∃ σ', fX11_refused σ a = _ ∧ _
  unfold fX11_refused gRefused
  rw [isInI σ a 0 2 0 2 rfl rfl, cl_s]
  by_cases c : 0 ≤ a ∧ a ≤ 2
  · obtain ⟨w, hw, e⟩ := rngL (n := 2) c (by decide)
    rw [if_pos c, if_pos c, if_neg (by decide), e, ck_t (inb_nI (show w < 3 by omega) (by decide)), ix_nI (by omega), h.ref w (by omega)]
    exact ⟨σ, rfl, h, fun _ _ => rfl⟩
  · rw [if_neg c, if_neg c, if_pos rfl]
    exact rbad h
def gCount (a : Int32) (A : Ab) : Int32 × Ab := if a = 0 then (nI A.n, A) else if a = 1 then (nI A.tc, A) else if a = 2 then (nI A.lc, A) else if a = 3 then (nI A.pc, A) else if a = 4 then (nI A.d.mc, A) else bad A
theorem cs_count (a : Int32) : CS (fun σ => fX10_count σ a) (gCount a) := by
  intro σ A h
  show ∃ σ', fX10_count σ a = _ ∧ _
  unfold fX10_count gCount
  rw [h.mean.1.1, h.tape.1, h.line.1, h.past.1, h.now.1.2.2.1]
  by_cases c0 : a = 0
  · rw [if_pos c0, if_pos c0]; exact ⟨σ, rfl, h, fun _ _ => rfl⟩
  rw [if_neg c0, if_neg c0]
  by_cases c0 : a = 1
  · rw [if_pos c0, if_pos c0]; exact ⟨σ, rfl, h, fun _ _ => rfl⟩
  rw [if_neg c0, if_neg c0]
  by_cases c0 : a = 2
  · rw [if_pos c0, if_pos c0]; exact ⟨σ, rfl, h, fun _ _ => rfl⟩
  rw [if_neg c0, if_neg c0]
  by_cases c0 : a = 3
  · rw [if_pos c0, if_pos c0]; exact ⟨σ, rfl, h, fun _ _ => rfl⟩
  rw [if_neg c0, if_neg c0]
  by_cases c0 : a = 4
  · rw [if_pos c0, if_pos c0]; exact ⟨σ, rfl, h, fun _ _ => rfl⟩
  rw [if_neg c0, if_neg c0]
  exact cbad h
theorem rs_count (a : Int32) : RS (fun σ => fX11_count σ a) (gCount a) := by
  intro σ A h
  show ∃ σ', fX11_count σ a = _ ∧ _
  unfold fX11_count gCount
  have e72 : σ 375 (ix 72) = nI A.d.mc := h.now.1.2.2.1
  rw [h.forms.1, h.tape.1, h.line.1, h.past.1, e72, ck_t (by decide)]
  by_cases c0 : a = 0
  · rw [if_pos c0, if_pos c0]; exact ⟨σ, rfl, h, fun _ _ => rfl⟩
  rw [if_neg c0, if_neg c0]
  by_cases c0 : a = 1
  · rw [if_pos c0, if_pos c0]; exact ⟨σ, rfl, h, fun _ _ => rfl⟩
  rw [if_neg c0, if_neg c0]
  by_cases c0 : a = 2
  · rw [if_pos c0, if_pos c0]; exact ⟨σ, rfl, h, fun _ _ => rfl⟩
  rw [if_neg c0, if_neg c0]
  by_cases c0 : a = 3
  · rw [if_pos c0, if_pos c0]; exact ⟨σ, rfl, h, fun _ _ => rfl⟩
  rw [if_neg c0, if_neg c0]
  by_cases c0 : a = 4
  · rw [if_pos c0, if_pos c0]; exact ⟨σ, rfl, h, fun _ _ => rfl⟩
  rw [if_neg c0, if_neg c0]
  exact rbad h
def gCell (a : Int32) (A : Ab) : Int32 × Ab := if 0 ≤ a ∧ a ≤ 31 then (nI (A.d.cel (ix a)), A) else bad A
theorem cs_cell (a : Int32) : CS (fun σ => fX10_cell σ a) (gCell a) := by
  intro σ A h
  show ∃ σ', fX10_cell σ a = _ ∧ _
  unfold fX10_cell gCell
  rw [ccell, cl_s]
  by_cases c : 0 ≤ a ∧ a ≤ 31
  · obtain ⟨w, hw, e⟩ := rngL (n := 31) c (by decide)
    rw [if_pos c, if_pos c, if_neg (by decide), e, ck_t (inb_nI (show w < 32 by omega) (by decide)), ix_nI (by omega), h.now.1.1 w (by omega)]
    exact ⟨σ, rfl, h, fun _ _ => rfl⟩
  · rw [if_neg c, if_neg c, if_pos rfl]
    exact cbad h
theorem e8 (w : Nat) : (8 : Int32) + nI w = nI (8 + w) := nI_add 8 w
theorem rs_cell (a : Int32) : RS (fun σ => fX11_cell σ a) (gCell a) := by
  intro σ A h
  show ∃ σ', fX11_cell σ a = _ ∧ _
  unfold fX11_cell gCell
  rw [rcell, cl_s]
  by_cases c : 0 ≤ a ∧ a ≤ 31
  · obtain ⟨w, hw, e⟩ := rngL (n := 31) c (by decide)
    have := h.now.1.2.1 w (by omega)
    rw [Nat.zero_add] at this
    rw [if_pos c, if_pos c, if_neg (by decide), e, e8, ck_t (inb_nI (show 8 + w < 73 by omega) (by decide)), ix_nI (by omega), ix_nI (by omega), this]
    exact ⟨σ, rfl, h, fun _ _ => rfl⟩
  · rw [if_neg c, if_neg c, if_pos rfl]
    exact rbad h
