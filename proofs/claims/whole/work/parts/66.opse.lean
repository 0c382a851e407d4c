/-! ===== met, copy, image ===== -/
def hasM (d : Dd) (a : Int32) : Bool := (List.range d.mc).any (fun i => decide (d.met i = a))
theorem any_from {p : Nat → Bool} {m i : Nat} (hi : i < m) : (List.range m).any (fun q => decide (i ≤ q) && p q) = (p i || (List.range m).any (fun q => decide (i + 1 ≤ q) && p q)) := by
  rw [Bool.eq_iff_iff]
  simp only [List.any_eq_true, List.mem_range, Bool.and_eq_true, decide_eq_true_eq, Bool.or_eq_true]
  constructor
  · rintro ⟨q, h1, h2, h3⟩
    by_cases e : q = i
    · subst e; exact Or.inl h3
    · exact Or.inr ⟨q, h1, by omega, h3⟩
  · rintro (h | ⟨q, h1, h2, h3⟩)
    · exact ⟨i, hi, Nat.le_refl i, h⟩
    · exact ⟨q, h1, by omega, h3⟩
theorem any_end {p : Nat → Bool} {m : Nat} : (List.range m).any (fun q => decide (m ≤ q) && p q) = false := by
  rw [List.any_eq_false]
  intro q hq
  have := List.mem_range.mp hq
  have h2 : ¬ m ≤ q := by omega
  simp [h2]
theorem any_0 {p : Nat → Bool} {m : Nat} : (List.range m).any (fun q => decide (0 ≤ q) && p q) = (List.range m).any p := by simp
theorem met_loop {σ : Mem} {k : Nat} {d : Dd} (h : CDeeds σ k d) (hd : Dok d) (a : Int32) (k1 k2 : Option (Int32 × Mem)) :
    ∀ (c fuel i : Nat), i + c = d.mc → c < fuel → fX1_hasMet_L2 k1 k2 σ k a fuel (nI i) = if (List.range d.mc).any (fun q => decide (i ≤ q) && decide (d.met q = a)) = true then k1 else k2 := by
  have hm := hd.2.1
  intro c
  induction c with
  | zero =>
    intro fuel i hi hf
    cases fuel with
    | zero => omega
    | succ fuel =>
      show fX1_hasMet_L2_b k1 k2 σ k a (fX1_hasMet_L2 k1 k2 σ k a fuel) (nI i) = _
      unfold fX1_hasMet_L2_b
      have : i = d.mc := by omega
      rw [this, h.2.2.1, if_neg (nI_nlt (Nat.le_refl _) (by omega)), any_end, if_neg (by decide)]
  | succ c ih =>
    intro fuel i hi hf
    cases fuel with
    | zero => omega
    | succ fuel =>
      show fX1_hasMet_L2_b k1 k2 σ k a (fX1_hasMet_L2 k1 k2 σ k a fuel) (nI i) = _
      unfold fX1_hasMet_L2_b
      rw [h.2.2.1, if_pos (nI_lt (show i < d.mc by omega) (by omega)), ck_t (inb_nI (show i < 32 by omega) (by decide)), ix_nI (by omega), h.2.2.2 i (by omega), any_from (show i < d.mc by omega), nI_1]
      by_cases e : d.met i = a
      · rw [if_pos e]; simp [e]
      · rw [if_neg e, ih fuel (i + 1) (by omega) (by omega)]; simp [e]
theorem hasMet_ok {σ : Mem} {k : Nat} {d : Dd} (h : CDeeds σ k d) (hd : Dok d) (a : Int32) : fX1_hasMet k σ a = some (if hasM d a = true then 1 else 0, σ) := by
  have hm := hd.2.1
  unfold fX1_hasMet
  have := met_loop h hd a (some (1, σ)) (some (0, σ)) d.mc 5000 0 (by omega) (by omega)
  rw [show nI 0 = (0 : Int32) from rfl] at this
  rw [this, any_0, ← hasM]
  by_cases e : hasM d a = true <;> simp [e]
theorem place_loop {σ : Mem} {d : Dd} (h : RDeeds σ 375 0 d) (hd : Dok d) (a : Int32) (kk : Int32 → Option (Int32 × Mem)) :
    ∀ (c fuel i : Nat) (x : Int32), i + c = d.mc → c < fuel → ∃ y, fX11_placeMet_L4 kk σ a fuel x (nI i) = kk y ∧ (¬ y < 0 ↔ ¬ x < 0 ∨ (List.range d.mc).any (fun q => decide (i ≤ q) && decide (d.met q = a)) = true) := by
  have hm := hd.2.1
  have e72 : σ 375 (ix 72) = nI d.mc := h.2.2.1
  intro c
  induction c with
  | zero =>
    intro fuel i x hi hf
    cases fuel with
    | zero => omega
    | succ fuel =>
      show ∃ y, fX11_placeMet_L4_b kk σ a (fX11_placeMet_L4 kk σ a fuel) x (nI i) = kk y ∧ _
      unfold fX11_placeMet_L4_b
      have : i = d.mc := by omega
      rw [ck_t (by decide), e72, this, if_neg (nI_nlt (Nat.le_refl _) (by omega)), any_end]
      exact ⟨x, rfl, by simp⟩
  | succ c ih =>
    intro fuel i x hi hf
    cases fuel with
    | zero => omega
    | succ fuel =>
      show ∃ y, fX11_placeMet_L4_b kk σ a (fX11_placeMet_L4 kk σ a fuel) x (nI i) = kk y ∧ _
      unfold fX11_placeMet_L4_b
      have hme := h.2.2.2 i (by omega)
      rw [Nat.zero_add] at hme
      rw [ck_t (by decide), e72, if_pos (nI_lt (show i < d.mc by omega) (by omega)), show (40 : Int32) + nI i = nI (40 + i) from nI_add 40 i, ck_t (inb_nI (show 40 + i < 73 by omega) (by decide)), ix_nI (by omega), hme, lt_e, nI_1, any_from (show i < d.mc by omega)]
      by_cases e : d.met i = a
      · rw [if_pos e]
        obtain ⟨y, y1, y2⟩ := ih fuel (i + 1) (nI i) (by omega) (by omega)
        refine ⟨y, y1, ?_⟩
        rw [y2]
        simp [e, nI_pos (show i < 2 ^ 31 by omega)]
      · rw [if_neg e]
        obtain ⟨y, y1, y2⟩ := ih fuel (i + 1) x (by omega) (by omega)
        refine ⟨y, y1, ?_⟩
        rw [y2]
        simp [e]
theorem placeMet_ok {σ : Mem} {d : Dd} (h : RDeeds σ 375 0 d) (hd : Dok d) (a : Int32) : ∃ y, fX11_placeMet σ a = some (y, σ) ∧ (y < 0 ↔ hasM d a = false) := by
  have hm := hd.2.1
  unfold fX11_placeMet
  obtain ⟨y, y1, y2⟩ := place_loop h hd a (fun x6 => some (x6, σ)) d.mc 5000 0 (-1) (by omega) (by omega)
  rw [show nI 0 = (0 : Int32) from rfl] at y1
  refine ⟨y, y1, ?_⟩
  rw [any_0, ← hasM] at y2
  have h1 : ¬ ¬ (-1 : Int32) < 0 := by decide
  by_cases e : hasM d a = true
  · have := y2.mpr (Or.inr e)
    simp [e, this]
  · have : y < 0 := by
      apply Classical.byContradiction
      intro z
      rcases y2.mp z with z | z
      · exact h1 z
      · exact e z
    simp [e, this]
def gMet (a : Int32) (A : Ab) : Int32 × Ab := if 0 ≤ a ∧ a ≤ 4095 then (if hasM A.d a = true then 1 else 0, A) else bad A
theorem cs_met (a : Int32) : CS (fun σ => fX10_met σ a) (gMet a) := by
  intro σ A h
  show ∃ σ', fX10_met σ a = _ ∧ _
  unfold fX10_met gMet
  rw [cword, cl_s]
  by_cases c : 0 ≤ a ∧ a ≤ 4095
  · rw [if_pos c, if_pos c, if_neg (by decide), hasMet_ok h.now.1 h.now.2, cl_s]
    refine ⟨σ, ?_, h, fun _ _ => rfl⟩
    by_cases e : hasM A.d a = true
    · rw [if_pos e, if_neg (by decide)]
    · rw [if_neg e, if_pos rfl]
  · rw [if_neg c, if_neg c, if_pos rfl]
    exact cbad h
theorem rs_met (a : Int32) : RS (fun σ => fX11_met σ a) (gMet a) := by
  intro σ A h
  show ∃ σ', fX11_met σ a = _ ∧ _
  unfold fX11_met gMet
  rw [rword, cl_s]
  by_cases c : 0 ≤ a ∧ a ≤ 4095
  · obtain ⟨y, y1, y2⟩ := placeMet_ok h.now.1 h.now.2 a
    rw [if_pos c, if_pos c, if_neg (by decide), y1, cl_s]
    refine ⟨σ, ?_, h, fun _ _ => rfl⟩
    by_cases e : hasM A.d a = true
    · rw [if_pos e, if_neg (fun z => by rw [y2.mp z] at e; cases e)]
    · rw [if_neg e, if_pos (y2.mpr (by simpa using e))]
  · rw [if_neg c, if_neg c, if_pos rfl]
    exact rbad h
/-- copy -/
def copD (d : Dd) (i j c : Nat) : Dd := (d.hand, fun q => if j ≤ q ∧ q < j + c then d.cel (i + (q - j)) else d.cel q, d.mc, d.met)
def gCopy (a b n : Int32) (A : Ab) : Int32 × Ab := if (0 ≤ a ∧ a ≤ 31) ∧ (0 ≤ b ∧ b ≤ 31) ∧ ¬ n < 0 ∧ ¬ 32 - a < n ∧ ¬ 32 - b < n then (n, setD (remA A) (copD A.d (ix a) (ix b) (ix n))) else bad A
theorem copD_ok {d : Dd} (h : Dok d) {i j c : Nat} (hi : i + c ≤ 32) : Dok (copD d i j c) := by
  refine ⟨fun q hq => ?_, h.2.1, h.2.2⟩
  show (if j ≤ q ∧ q < j + c then d.cel (i + (q - j)) else d.cel q) < 4096
  by_cases e : j ≤ q ∧ q < j + c
  · rw [if_pos e]; exact h.1 _ (by omega)
  · rw [if_neg e]; exact h.1 q hq
theorem cop_of {a b n : Int32} (h : (0 ≤ a ∧ a ≤ 31) ∧ (0 ≤ b ∧ b ≤ 31) ∧ ¬ n < 0 ∧ ¬ 32 - a < n ∧ ¬ 32 - b < n) : ∃ i j c, a = nI i ∧ b = nI j ∧ n = nI c ∧ i < 32 ∧ j < 32 ∧ i + c ≤ 32 ∧ j + c ≤ 32 := by
  obtain ⟨h1, h2, h3, h4, h5⟩ := h
  obtain ⟨i, hi, ea⟩ := rngL (n := 31) h1 (by decide)
  obtain ⟨j, hj, eb⟩ := rngL (n := 31) h2 (by decide)
  obtain ⟨c, hc, ec⟩ := nI_of h3
  subst ea; subst eb; subst ec
  rw [show (32 : Int32) = nI 32 from rfl, pk_sub (by omega)] at h4 h5
  refine ⟨i, j, c, rfl, rfl, rfl, by omega, by omega, ?_, ?_⟩
  · have : ¬ 32 - i < c := fun z => h4 (nI_lt z hc)
    omega
  · have : ¬ 32 - j < c := fun z => h5 (nI_lt z hc)
    omega
theorem cs_copy (a b n : Int32) : CS (fun σ => fX10_copy σ a b n) (gCopy a b n) := by
  intro σ A h
  show ∃ σ', fX10_copy σ a b n = _ ∧ _
  unfold fX10_copy gCopy
  rw [ccell, cl_s, lt_e]
  by_cases c1 : 0 ≤ a ∧ a ≤ 31
  case neg => rw [if_neg c1, if_pos rfl, if_neg (fun z => c1 z.1)]; exact cbad h
  rw [if_pos c1, if_neg (by decide), ccell, cl_s]
  by_cases c2 : 0 ≤ b ∧ b ≤ 31
  case neg => rw [if_neg c2, if_pos rfl, if_neg (fun z => c2 z.2.1)]; exact cbad h
  rw [if_pos c2, if_neg (by decide)]
  by_cases c3 : n < 0
  case pos => rw [if_pos c3, if_neg (fun z => z.2.2.1 c3)]; exact cbad h
  rw [if_neg c3]
  by_cases c4 : 32 - a < n
  case pos => rw [if_pos c4, if_neg (fun z => z.2.2.2.1 c4)]; exact cbad h
  rw [if_neg c4]
  by_cases c5 : 32 - b < n
  case pos => rw [if_pos c5, if_neg (fun z => z.2.2.2.2 c5)]; exact cbad h
  rw [if_neg c5, if_pos ⟨c1, c2, c3, c4, c5⟩]
  obtain ⟨i, j, c, rfl, rfl, rfl, hi, hj, hic, hjc⟩ := cop_of ⟨c1, c2, c3, c4, c5⟩
  obtain ⟨s, b1, b2, b3⟩ := remember_ok h
  have hb : cpb (nI i) (nI j) (nI c) 32 32 = true := by
    unfold cpb
    rw [ix_nI (by omega), ix_nI (by omega), ix_nI (by omega)]
    simp [nI_pos' (show i < 2 ^ 31 by omega), nI_pos' (show j < 2 ^ 31 by omega), nI_pos' (show c < 2 ^ 31 by omega), hic, hjc]
  rw [b1, cl_s, ck_t hb, lt_e, ix_nI (show i < 2 ^ 31 by omega), ix_nI (show j < 2 ^ 31 by omega), ix_nI (show c < 2 ^ 31 by omega)]
  have hs : ∀ q, q ≠ 284 → cpy s 284 284 i j c q = s q := fun q hq => by rw [cpy, if_neg hq]
  refine ⟨_, rfl, b2.setD (fun q hq => hs q (by omega)) ⟨fun q hq => ?_, fun q hq => ?_, ?_, fun q hq => ?_⟩ (copD_ok b2.now.2 hic), fun k hk => by rw [hs k (by omega)]; exact b3 k hk⟩
  · show cpy s 284 284 i j c 284 q = nI (if j ≤ q ∧ q < j + c then A.d.cel (i + (q - j)) else A.d.cel q)
    rw [cpy, if_pos rfl]
    by_cases e : j ≤ q ∧ q < j + c
    · rw [pk_cpy_in e.1 e.2, if_pos e]; exact b2.now.1.1 _ (by omega)
    · rw [pk_cpy_out (by omega), if_neg e]; exact b2.now.1.1 q hq
  · rw [hs 285 (by decide)]; exact b2.now.1.2.1 q hq
  · rw [hs 283 (by decide)]; exact b2.now.1.2.2.1
  · rw [hs 286 (by decide)]; exact b2.now.1.2.2.2 q hq
theorem e8i (i x : Nat) : (8 : Int32) + nI i + nI x = nI (8 + i + x) := by rw [e8, nI_add]
theorem copyA {i j c : Nat} (hi : i + c ≤ 32) (kk : Mem → Option (Int32 × Mem)) :
    ∀ (r fuel x : Nat) (m : Mem), x + r = c → r < fuel →
      ∃ m', fX11_copy_L49 kk (nI i) (nI j) (nI c) fuel m (nI x) = kk m' ∧ (∀ q, q ≠ 383 → m' q = m q) ∧ (∀ q, x ≤ q → q < c → m' 383 q = m 375 (8 + i + q)) ∧ ∀ q, q < x → m' 383 q = m 383 q := by
  intro r
  induction r with
  | zero =>
    intro fuel x m hx hf
    cases fuel with
    | zero => omega
    | succ fuel =>
      show ∃ m', fX11_copy_L49_b kk (nI i) (nI j) (nI c) (fX11_copy_L49 kk (nI i) (nI j) (nI c) fuel) m (nI x) = kk m' ∧ _
      unfold fX11_copy_L49_b
      rw [if_neg (nI_nlt (by omega) (by omega))]
      exact ⟨m, rfl, fun _ _ => rfl, fun q a b => by omega, fun _ _ => rfl⟩
  | succ r ih =>
    intro fuel x m hx hf
    cases fuel with
    | zero => omega
    | succ fuel =>
      show ∃ m', fX11_copy_L49_b kk (nI i) (nI j) (nI c) (fX11_copy_L49 kk (nI i) (nI j) (nI c) fuel) m (nI x) = kk m' ∧ _
      unfold fX11_copy_L49_b
      rw [if_pos (nI_lt (by omega) (by omega)), e8i, ck_t (inb_nI (show 8 + i + x < 73 by omega) (by decide)), ck_t (inb_nI (show x < 32 by omega) (by decide)), lt_e, ix_nI (by omega), ix_nI (by omega), nI_1]
      obtain ⟨m', a1, a2, a3, a4⟩ := ih fuel (x + 1) (sto m 383 x (m 375 (8 + i + x))) (by omega) (by omega)
      refine ⟨m', a1, fun q hq => by rw [a2 q hq, sto_ne hq], fun q h1 h2 => ?_, fun q hq => ?_⟩
      · by_cases e : q = x
        · subst e
          rw [a4 _ (by omega), sto_eq]
        · rw [a3 q (by omega) h2, sto_ne (by decide)]
      · rw [a4 q (by omega), sto_nj (by omega)]
theorem copyB {j c : Nat} (hi : j + c ≤ 32) (kk : Mem → Option (Int32 × Mem)) :
    ∀ (r fuel x : Nat) (m : Mem), x + r = c → r < fuel →
      ∃ m', fX11_copy_L83 kk (nI j) (nI c) fuel m (nI x) = kk m' ∧ (∀ q, q ≠ 375 → m' q = m q) ∧ (∀ q, x ≤ q → q < c → m' 375 (8 + j + q) = m 383 q) ∧ ∀ q, q < 8 + j + x ∨ 8 + j + c ≤ q → m' 375 q = m 375 q := by
  intro r
  induction r with
  | zero =>
    intro fuel x m hx hf
    cases fuel with
    | zero => omega
    | succ fuel =>
      show ∃ m', fX11_copy_L83_b kk (nI j) (nI c) (fX11_copy_L83 kk (nI j) (nI c) fuel) m (nI x) = kk m' ∧ _
      unfold fX11_copy_L83_b
      rw [if_neg (nI_nlt (by omega) (by omega))]
      exact ⟨m, rfl, fun _ _ => rfl, fun q a b => by omega, fun _ _ => rfl⟩
  | succ r ih =>
    intro fuel x m hx hf
    cases fuel with
    | zero => omega
    | succ fuel =>
      show ∃ m', fX11_copy_L83_b kk (nI j) (nI c) (fX11_copy_L83 kk (nI j) (nI c) fuel) m (nI x) = kk m' ∧ _
      unfold fX11_copy_L83_b
      rw [if_pos (nI_lt (by omega) (by omega)), e8i, ck_t (inb_nI (show x < 32 by omega) (by decide)), ck_t (inb_nI (show 8 + j + x < 73 by omega) (by decide)), lt_e, ix_nI (by omega), ix_nI (by omega), nI_1]
      obtain ⟨m', a1, a2, a3, a4⟩ := ih fuel (x + 1) (sto m 375 (8 + j + x) (m 383 x)) (by omega) (by omega)
      refine ⟨m', a1, fun q hq => by rw [a2 q hq, sto_ne hq], fun q h1 h2 => ?_, fun q hq => ?_⟩
      · by_cases e : q = x
        · subst e
          rw [a4 _ (by omega), sto_eq]
        · rw [a3 q (by omega) h2, sto_ne (by decide)]
      · rw [a4 q (by omega), sto_nj (by omega)]
theorem rs_copy (a b n : Int32) : RS (fun σ => fX11_copy σ a b n) (gCopy a b n) := by
  intro σ A h
  show ∃ σ', fX11_copy σ a b n = _ ∧ _
  unfold fX11_copy gCopy
  rw [rcell, cl_s, lt_e]
  by_cases c1 : 0 ≤ a ∧ a ≤ 31
  case neg => rw [if_neg c1, if_pos rfl, if_neg (fun z => c1 z.1)]; exact rbad h
  rw [if_pos c1, if_neg (by decide), rcell, cl_s]
  by_cases c2 : 0 ≤ b ∧ b ≤ 31
  case neg => rw [if_neg c2, if_pos rfl, if_neg (fun z => c2 z.2.1)]; exact rbad h
  rw [if_pos c2, if_neg (by decide)]
  by_cases c3 : n < 0
  case pos => rw [if_pos c3, if_neg (fun z => z.2.2.1 c3)]; exact rbad h
  rw [if_neg c3]
  by_cases c4 : 32 - a < n
  case pos => rw [if_pos c4, if_neg (fun z => z.2.2.2.1 c4)]; exact rbad h
  rw [if_neg c4]
  by_cases c5 : 32 - b < n
  case pos => rw [if_pos c5, if_neg (fun z => z.2.2.2.2 c5)]; exact rbad h
  rw [if_neg c5, if_pos ⟨c1, c2, c3, c4, c5⟩]
  obtain ⟨i, j, c, rfl, rfl, rfl, hi, hj, hic, hjc⟩ := cop_of ⟨c1, c2, c3, c4, c5⟩
  obtain ⟨s, b1, b2, b3⟩ := notes_ok h
  have hz : nI 0 = (0 : Int32) := rfl
  obtain ⟨m1, p1, p2, p3, p4⟩ := copyA (j := j) hic (fun (m15 : Mem) => fX11_copy_L83 (fun (m21 : Mem) => some ((nI c), m21)) (nI j) (nI c) 5000 m15 (0 : Int32)) c 5000 0 s (by omega) (by omega)
  rw [hz] at p1
  rw [b1, cl_s, p1]
  obtain ⟨m2, q1, q2, q3, q4⟩ := copyB hjc (fun (m21 : Mem) => some ((nI c), m21)) c 5000 0 m1 (by omega) (by omega)
  rw [hz] at q1
  rw [q1, ix_nI (show i < 2 ^ 31 by omega), ix_nI (show j < 2 ^ 31 by omega), ix_nI (show c < 2 ^ 31 by omega)]
  have h375 : m1 375 = s 375 := p2 375 (by decide)
  have hd : RDeeds s 375 0 A.d := b2.now.1
  refine ⟨m2, rfl, b2.setD (fun x _ => by rw [q2 362 (by decide), p2 362 (by decide)]) (fun q _ h2 hq => by rw [q2 q hq, p2 q (by omega)]) ⟨fun q hq => ?_, fun q hq => ?_, ?_, fun q hq => ?_⟩ (copD_ok b2.now.2 hic), fun k hk => by rw [q2 k (by omega), p2 k (by omega)]; exact b3 k hk⟩
  · rw [q4 _ (by omega), h375]; exact hd.1 q hq
  · show m2 375 (0 + 8 + q) = nI (if j ≤ q ∧ q < j + c then A.d.cel (i + (q - j)) else A.d.cel q)
    by_cases e : j ≤ q ∧ q < j + c
    · have e2 : 0 + 8 + q = 8 + j + (q - j) := by omega
      rw [e2, q3 (q - j) (by omega) (by omega), p3 (q - j) (by omega) (by omega), if_pos e]
      have := hd.2.1 (i + (q - j)) (by omega)
      rw [← this]
      have e3 : 0 + 8 + (i + (q - j)) = 8 + i + (q - j) := by omega
      rw [e3]
    · rw [q4 _ (by omega), h375, if_neg e]; exact hd.2.1 q hq
  · rw [q4 _ (by omega), h375]; exact hd.2.2.1
  · have hm := b2.now.2.2.1
    have hm2 : A.d.mc ≤ 32 := hm
    have hq2 : q < A.d.mc := hq
    rw [q4 _ (by omega), h375]; exact hd.2.2.2 q hq
