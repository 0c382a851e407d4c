/-! ===== order, written, met, undo ===== -/
theorem le_pred {a : Int32} {m : Nat} (hm : m < 2 ^ 20) : (0 ≤ a ∧ a ≤ nI m - 1) ↔ (0 ≤ a ∧ a < nI m) := by
  cases m with
  | zero =>
    constructor
    · rintro ⟨h, g⟩
      exact absurd (Int32.le_trans h g) (by decide)
    · rintro ⟨h, g⟩
      exact absurd g (by rw [Int32.not_lt]; exact h)
  | succ m =>
    rw [nI_pred]
    constructor
    · rintro ⟨h, g⟩
      obtain ⟨i, hi, e⟩ := rngL (n := m) ⟨h, g⟩ (by omega)
      subst e
      exact ⟨h, nI_lt (by omega) (by omega)⟩
    · rintro ⟨h, g⟩
      obtain ⟨i, hi, e⟩ := rng (n := m + 1) h g (by omega)
      subst e
      exact ⟨h, nI_le (by omega) (by omega)⟩
def gOrder (a : Int32) (A : Ab) : Int32 × Ab := (if 0 ≤ a ∧ a < nI A.d.mc then A.d.met (ix a) else -1, A)
theorem cs_order (a : Int32) : CS (fun σ => fX10_order σ a) (gOrder a) := by
  intro σ A h
  refine ⟨σ, ?_, h, fun _ _ => rfl⟩
  show fX10_order σ a = some (if 0 ≤ a ∧ a < nI A.d.mc then A.d.met (ix a) else -1, σ)
  have hm := h.now.2.2.1
  unfold fX10_order
  rw [h.now.1.2.2.1]
  by_cases c : a < 0
  · rw [if_pos c, if_neg (fun z => absurd c (by rw [Int32.not_lt]; exact z.1))]
  · rw [if_neg c]
    rw [Int32.not_lt] at c
    by_cases e : a < nI A.d.mc
    · obtain ⟨i, hi, ea⟩ := rng c e (by omega)
      rw [if_pos e, if_pos ⟨c, e⟩, ea, ck_t (inb_nI (show i < 32 by omega) (by decide)), ix_nI (by omega), h.now.1.2.2.2 i hi]
    · rw [if_neg e, if_neg (fun z => e z.2)]
theorem rs_order (a : Int32) : RS (fun σ => fX11_order σ a) (gOrder a) := by
  intro σ A h
  refine ⟨σ, ?_, h, fun _ _ => rfl⟩
  show fX11_order σ a = some (if 0 ≤ a ∧ a < nI A.d.mc then A.d.met (ix a) else -1, σ)
  have hm := h.now.2.2.1
  unfold fX11_order
  have e72 : σ 375 (ix 72) = nI A.d.mc := h.now.1.2.2.1
  rw [ck_t (by decide), e72, isInI σ a 0 _ 0 (nI A.d.mc - 1) rfl rfl, cl_s]
  simp only [le_pred (show A.d.mc < 2 ^ 20 by omega)]
  by_cases e : 0 ≤ a ∧ a < nI A.d.mc
  · obtain ⟨i, hi, ea⟩ := rng e.1 e.2 (by omega)
    have := h.now.1.2.2.2 i hi
    rw [Nat.zero_add] at this
    rw [if_pos e, if_pos e, if_neg (by decide), ea, show (40 : Int32) + nI i = nI (40 + i) from nI_add 40 i, ck_t (inb_nI (show 40 + i < 73 by omega) (by decide)), ix_nI (by omega), ix_nI (by omega), this]
  · rw [if_neg e, if_neg e, if_pos rfl]
def gWritten (a : Int32) (A : Ab) : Int32 × Ab := (if 0 ≤ a ∧ a < nI A.lc then A.ln (ix a) else -1, A)
theorem cs_written (a : Int32) : CS (fun σ => fX10_written σ a) (gWritten a) := by
  intro σ A h
  refine ⟨σ, ?_, h, fun _ _ => rfl⟩
  show fX10_written σ a = some (if 0 ≤ a ∧ a < nI A.lc then A.ln (ix a) else -1, σ)
  have hm := h.line.2.1
  unfold fX10_written fX0_at
  rw [h.line.1]
  by_cases c : a < 0
  · rw [if_pos c, if_neg (fun z => absurd c (by rw [Int32.not_lt]; exact z.1)), cl_s]
  · rw [if_neg c]
    rw [Int32.not_lt] at c
    by_cases e : a < nI A.lc
    · obtain ⟨i, hi, ea⟩ := rng c e (by omega)
      rw [if_pos e, if_pos ⟨c, e⟩, ea, ck_t (show inb (nI i) (al (1 + 1)) = true from inb_nI (show i < 64 by omega) (by decide)), cl_s, ix_nI (by omega), h.line.2.2 i hi]
    · rw [if_neg e, if_neg (fun z => e z.2), cl_s]
theorem rs_written (a : Int32) : RS (fun σ => fX11_written σ a) (gWritten a) := by
  intro σ A h
  refine ⟨σ, ?_, h, fun _ _ => rfl⟩
  show fX11_written σ a = some (if 0 ≤ a ∧ a < nI A.lc then A.ln (ix a) else -1, σ)
  have hm := h.line.2.1
  unfold fX11_written
  rw [h.line.1, isInI σ a 0 _ 0 (nI A.lc - 1) rfl rfl, cl_s]
  simp only [le_pred (show A.lc < 2 ^ 20 by omega)]
  by_cases e : 0 ≤ a ∧ a < nI A.lc
  · obtain ⟨i, hi, ea⟩ := rng e.1 e.2 (by omega)
    rw [if_pos e, if_pos e, if_neg (by decide), ea, ck_t (inb_nI (show i < 64 by omega) (by decide)), ix_nI (by omega), h.line.2.2 i hi]
  · rw [if_neg e, if_neg e, if_pos rfl]
/-- undo -/
def gUndo (A : Ab) : Int32 × Ab := if A.pc = 0 then bad3 A else (nI (A.pc - 1), (A.n, A.F, A.tc, A.tp, A.lc, A.ln, A.past (A.pc - 1), A.pc - 1, A.past, A.kept, A.rf))
theorem cs_undo : CS fX10_undo gUndo := by
  intro σ A h
  obtain ⟨hc, hc16, p0, hp, h12, hps⟩ := h.past
  unfold fX10_undo gUndo
  rw [hc]
  by_cases e : A.pc = 0
  · rw [if_pos (by rw [e]; rfl), if_pos e]
    exact cbad3 h
  · rw [if_neg (nI_ne0 (by omega) (by omega)), if_neg e, lt_e, sto_nj (by decide), sto_eq, h12]
    obtain ⟨c, hcc⟩ : ∃ c, A.pc = c + 1 := ⟨A.pc - 1, by omega⟩
    rw [hcc, nI_pred, nI_add, mod16 (by omega), ck_t (inb_nI (show (p0 + c) % 16 < 16 by omega) (by decide)), ix_nI (by omega), Nat.add_sub_cancel]
    have hs : ∀ q, q ≠ 0 → sto σ 0 13 (nI c) q = σ q := fun q hq => sto_ne hq
    have hd := hps c (by omega)
    obtain ⟨s, b1, b2, b3⟩ := become_ok (k := 283) (hd.1.congr (fun q a b => hs q (by omega))) hd.2 (Or.inl (by omega))
    rw [b1, cl_s, b3 0 (Or.inl (by decide)), sto_eq]
    have h1 : CInv (sto σ 0 13 (nI c)) (A.n, A.F, A.tc, A.tp, A.lc, A.ln, A.d, c, A.past, A.kept, A.rf) := h.pastB c A.past ⟨sto_eq, by omega, p0, hp, by rw [sto_nj (by decide)]; exact h12, fun t ht => ⟨(hps t (by omega)).1.congr (fun q a b => hs q (by omega)), (hps t (by omega)).2⟩⟩ (by rw [sto_nj (by decide)]) (fun q a b => hs q (by omega))
    exact ⟨s, rfl, h1.setD (fun q hq => b3 q (by omega)) b2 hd.2, fun k hk => by rw [b3 k (by omega), hs k (by omega)]⟩
theorem undo_loop {c : Nat} (hc : c < 16) (kk : Mem → Option (Int32 × Mem)) :
    ∀ (r fuel i : Nat) (m : Mem), i + r = 73 → r < fuel → m 362 18 = nI c →
      ∃ m', fX11_undo_L27 kk fuel m (nI i) = kk m' ∧ (∀ q, q ≠ 375 → m' q = m q) ∧ (∀ j, i ≤ j → j < 73 → m' 375 j = m 376 (73 * c + j)) ∧ ∀ j, j < i → m' 375 j = m 375 j := by
  intro r
  induction r with
  | zero =>
    intro fuel i m hi hf h18
    cases fuel with
    | zero => omega
    | succ fuel =>
      show ∃ m', fX11_undo_L27_b kk (fX11_undo_L27 kk fuel) m (nI i) = kk m' ∧ _
      unfold fX11_undo_L27_b
      have : i = 73 := by omega
      subst this
      rw [if_neg (by decide)]
      exact ⟨m, rfl, fun _ _ => rfl, fun j a b => by omega, fun _ _ => rfl⟩
  | succ r ih =>
    intro fuel i m hi hf h18
    cases fuel with
    | zero => omega
    | succ fuel =>
      show ∃ m', fX11_undo_L27_b kk (fX11_undo_L27 kk fuel) m (nI i) = kk m' ∧ _
      unfold fX11_undo_L27_b
      rw [if_pos (show nI i < 73 from nI_lt (b := 73) (by omega) (by decide)), h18, e73, ck_t (inb_nI (show 73 * c + i < 1168 by omega) (by decide)), ck_t (inb_nI (show i < 73 by omega) (by decide)), lt_e, ix_nI (by omega), ix_nI (by omega), nI_1]
      obtain ⟨m', a1, a2, a3, a4⟩ := ih fuel (i + 1) (sto m 375 i (m 376 (73 * c + i))) (by omega) (by omega) (by rw [sto_ne (by decide)]; exact h18)
      refine ⟨m', a1, fun q hq => by rw [a2 q hq, sto_ne hq], fun j h1 h2 => ?_, fun j hj => ?_⟩
      · by_cases e : j = i
        · subst e
          rw [a4 _ (by omega), sto_eq]
        · rw [a3 j (by omega) h2, sto_ne (by decide)]
      · rw [a4 j (by omega), sto_nj (by omega)]
theorem rs_undo : RS fX11_undo gUndo := by
  intro σ A h
  obtain ⟨hc, hc16, hps⟩ := h.past
  unfold fX11_undo gUndo
  rw [hc]
  by_cases e : A.pc = 0
  · rw [if_pos (by rw [e]; rfl), if_pos e]
    exact rbad3 h
  · rw [if_neg (nI_ne0 (by omega) (by omega)), if_neg e, lt_e]
    obtain ⟨c, hcc⟩ : ∃ c, A.pc = c + 1 := ⟨A.pc - 1, by omega⟩
    rw [hcc, nI_pred, Nat.add_sub_cancel]
    have hs : ∀ q, q ≠ 362 → sto σ 362 18 (nI c) q = σ q := fun q hq => sto_ne hq
    have hd := hps c (by omega)
    obtain ⟨m2, a1, a2, a3, a4⟩ := undo_loop (c := c) (by omega) (fun (m7 : Mem) => some ((m7 362 18), m7)) 73 5000 0 (sto σ 362 18 (nI c)) (by omega) (by omega) sto_eq
    have hz : nI 0 = (0 : Int32) := rfl
    rw [hz] at a1
    rw [a1, a2 362 (by decide), sto_eq]
    have h1 : RInv (sto σ 362 18 (nI c)) (A.n, A.F, A.tc, A.tp, A.lc, A.ln, A.d, c, A.past, A.kept, A.rf) := h.pastB c A.past ⟨sto_eq, by omega, fun t ht => ⟨(hps t (by omega)).1.congr (hs 376 (by decide)), (hps t (by omega)).2⟩⟩ (fun j hj => sto_nj hj) (fun q a b => hs q (by omega))
    refine ⟨m2, rfl, h1.setD (fun j _ => by rw [a2 362 (by decide)]) (fun q _ _ hq => a2 q hq) (hd.1.mv hd.2 (fun j hj => ?_)) hd.2, fun k hk => by rw [a2 k (by omega), hs k (by omega)]⟩
    rw [Nat.zero_add, a3 j (by omega) hj, hs 376 (by decide)]
