/-! ===== walk, halts ===== -/
abbrev Wk : Type := Wl × Nat × Int32 × Int32
def wk (F : Nat → Fm) (n : Nat) (cel : Nat → Nat) : Nat → Wk → Wk
  | 0, x => x
  | k + 1, x => match stepP F n cel x.1 with
    | none => x
    | some s' => wk F n cel k (s', x.2.1 + 1, x.2.2.1 + cstW F n (nI (cel x.1.1)), x.2.2.2 ||| (1 <<< (nI x.1.1 &&& 31)))
def w0 (a : Nat) : Wl := (a, 0, fun _ => 0)
theorem w0_ok {a : Nat} (h : a < 32) : Wok (w0 a) := ⟨h, by show 0 ≤ 4; omega, fun _ => by show 0 < 32; omega⟩
def ansW (x : Wk) (c : Int32) : Int32 := if c = 0 then nI x.1.1 else if c = 1 then nI x.2.1 else if c = 2 then x.2.2.1 else if c = 3 then nI x.1.2.1 else x.2.2.2
def gWalk (a b c : Int32) (A : Ab) : Int32 × Ab := if (0 ≤ a ∧ a ≤ 31) ∧ (0 ≤ b ∧ b ≤ 200) ∧ (0 ≤ c ∧ c ≤ 4) then (ansW (wk A.F A.n A.d.cel (ix b) (w0 (ix a), 0, 0, 0)) c, A) else bad A
theorem and31s : ∀ a, a < 32 → nI a &&& 31 = nI a := by decide
theorem startAt_ok {σ : Mem} {A : Ab} (h : CInv σ A) {a : Nat} (ha : a < 32) : ∃ σ', fX9_startAt σ (nI a) = some ((), σ') ∧ CInv σ' A ∧ Hi σ σ' ∧ CW σ' (w0 a) ∧ σ' 296 6 = 0 ∧ σ' 296 7 = 0 ∧ σ' 296 8 = 0 ∧ ∀ q, q ≠ 296 → σ' q = σ q := by
  unfold fX9_startAt
  simp only [lt_e]
  rw [and31s a ha]
  have hs : ∀ q, q ≠ 296 → sto (sto (sto (sto (sto σ 296 5 (nI a)) 296 4 0) 296 6 0) 296 7 0) 296 8 0 q = σ q := fun q hq => by rw [sto_ne hq, sto_ne hq, sto_ne hq, sto_ne hq, sto_ne hq]
  refine ⟨_, rfl, h.congr (fun q x y => hs q (by omega)), fun q hq => hs q (by omega), ⟨?_, ?_, fun i hi => absurd hi (Nat.not_lt_zero i)⟩, ?_, ?_, sto_eq, hs⟩
  · rw [sto_nj (by decide), sto_nj (by decide), sto_nj (by decide), sto_nj (by decide), sto_eq]; rfl
  · rw [sto_nj (by decide), sto_nj (by decide), sto_nj (by decide), sto_eq]; rfl
  · rw [sto_nj (by decide), sto_nj (by decide), sto_eq]
  · rw [sto_nj (by decide), sto_eq]
theorem begins_ok {σ : Mem} {A : Ab} (h : RInv σ A) {a : Nat} : ∃ σ', fX11_begins σ (nI a) = some ((), σ') ∧ RInv σ' A ∧ Lo σ σ' ∧ RW σ' (w0 a) := by
  unfold fX11_begins
  simp only [lt_e]
  have hs : ∀ q, q ≠ 362 → sto (sto σ 362 36 (nI a)) 362 37 0 q = σ q := fun q hq => by rw [sto_ne hq, sto_ne hq]
  refine ⟨_, rfl, h.congr (fun q x y => hs q (by omega)) (fun j hj => by rw [sto_nj (by omega), sto_nj (by omega)]), fun q hq => hs q (by omega), ⟨?_, sto_eq, fun i hi => absurd hi (Nat.not_lt_zero i)⟩⟩
  rw [sto_nj (by decide), sto_eq]; rfl
theorem cs_walk (a b c : Int32) : CS (fun σ => fX10_walk σ a b c) (gWalk a b c) := by
  intro σ A h
  show ∃ σ', fX10_walk σ a b c = _ ∧ _
  unfold fX10_walk gWalk
  rw [ccell, cl_s, lt_e]
  by_cases c1 : 0 ≤ a ∧ a ≤ 31
  case neg => rw [if_neg c1, if_pos rfl, if_neg (fun z => c1 z.1)]; exact cbad h
  rw [if_pos c1, if_neg (by decide), within_ok, cl_s]
  by_cases c2 : 0 ≤ b ∧ b ≤ 200
  case neg => rw [if_neg c2, if_pos rfl, if_neg (fun z => c2 z.2.1)]; exact cbad h
  rw [if_pos c2, if_neg (by decide), within_ok, cl_s]
  by_cases c3 : 0 ≤ c ∧ c ≤ 4
  case neg => rw [if_neg c3, if_pos rfl, if_neg (fun z => c3 z.2.2)]; exact cbad h
  rw [if_pos c3, if_neg (by decide), if_pos (show (0 ≤ a ∧ a ≤ 31) ∧ (0 ≤ b ∧ b ≤ 200) ∧ (0 ≤ c ∧ c ≤ 4) from ⟨c1, c2, c3⟩)]
  obtain ⟨i, hi, rfl⟩ := rngL (n := 31) c1 (by decide)
  obtain ⟨n, hn, rfl⟩ := rngL (n := 200) c2 (by decide)
  obtain ⟨s, b1, b2, b3, b4, b5, b6, b7, _⟩ := startAt_ok h (show i < 32 by omega)
  rw [b1, cl_s, ix_nI (by omega), ix_nI (by omega)]
  have fin : ∀ (m : Mem) (x : Wk), CInv m A → Hi σ m → CW m x.1 → m 296 6 = nI x.2.1 → m 296 7 = x.2.2.1 → m 296 8 = x.2.2.2 → wk A.F A.n A.d.cel n (w0 i, 0, 0, 0) = x →
      ∃ σ', (if c = (0 : Int32) then some ((m 296 5), m) else if c = (1 : Int32) then some ((m 296 6), m) else if c = (2 : Int32) then some ((m 296 7), m) else if c = (3 : Int32) then some ((m 296 4), m) else some ((m 296 8), m)) = some (ansW (wk A.F A.n A.d.cel n (w0 i, 0, 0, 0)) c, σ') ∧ CInv σ' A ∧ Hi σ σ' := by
    intro m x h1 h2 h3 h4 h5 h6 h7
    refine ⟨m, ?_, h1, h2⟩
    rw [h7, h3.1, h3.2.1, h4, h5, h6]
    unfold ansW
    split
    · rfl
    · split
      · rfl
      · split
        · rfl
        · split <;> rfl
  refine loopA (fX10_walk_L49 (fun (m17 : Mem) => if c = (0 : Int32) then some ((m17 296 5), m17) else if c = (1 : Int32) then some ((m17 296 6), m17) else if c = (2 : Int32) then some ((m17 296 7), m17) else if c = (3 : Int32) then some ((m17 296 4), m17) else some ((m17 296 8), m17)) (nI n) c) (fX10_walk_L49_b (fun (m17 : Mem) => if c = (0 : Int32) then some ((m17 296 5), m17) else if c = (1 : Int32) then some ((m17 296 6), m17) else if c = (2 : Int32) then some ((m17 296 7), m17) else if c = (3 : Int32) then some ((m17 296 4), m17) else some ((m17 296 8), m17)) (nI n) c) (fun _ _ _ _ => rfl) n
    (fun k m t => ∃ x : Wk, CInv m A ∧ Hi σ m ∧ Wok x.1 ∧ CW m x.1 ∧ m 296 6 = nI x.2.1 ∧ m 296 7 = x.2.2.1 ∧ m 296 8 = x.2.2.2 ∧ ((t = 1 ∧ wk A.F A.n A.d.cel n (w0 i, 0, 0, 0) = wk A.F A.n A.d.cel (n - k) x) ∨ (t = 0 ∧ wk A.F A.n A.d.cel n (w0 i, 0, 0, 0) = x)))
    (fun r => ∃ σ', r = some (ansW (wk A.F A.n A.d.cel n (w0 i, 0, 0, 0)) c, σ') ∧ CInv σ' A ∧ Hi σ σ') ?_ ?_ 5000 0 s 1 (by omega) (by omega) ⟨(w0 i, 0, 0, 0), b2, b3, w0_ok (by omega), b4, b5, b6, b7, Or.inl ⟨rfl, rfl⟩⟩
  · rintro m t rec ⟨x, h1, h2, h3, h4, h5, h6, h7, h8⟩
    unfold fX10_walk_L49_b
    rw [if_neg (nI_nlt (Nat.le_refl n) (by omega))]
    refine fin m x h1 h2 h4 h5 h6 h7 ?_
    rcases h8 with ⟨_, e⟩ | ⟨_, e⟩
    · rw [Nat.sub_self] at e; exact e
    · exact e
  · rintro k m t rec hk ⟨x, h1, h2, h3, h4, h5, h6, h7, h8⟩
    unfold fX10_walk_L49_b
    rw [if_pos (nI_lt hk (by omega))]
    rcases h8 with ⟨rfl, e⟩ | ⟨rfl, e⟩
    · right
      rw [if_neg (by decide)]
      obtain ⟨m1, d1, d2, d3⟩ := stepOn_ok h1 h4 h3
      have hh : Hi σ m1 := fun q hq => (d2 q hq).trans (h2 q hq)
      rw [show n - k = (n - (k + 1)) + 1 by omega, wk] at e
      rcases d3 with ⟨e1, e2, e3, e4⟩ | ⟨s', e1, e2, e3, e4, e5, e6⟩
      · rw [e2, cl_s, nI_1]
        rw [e1] at e
        exact ⟨m1, 0, ⟨x, d1, hh, h3, e3, by rw [e4]; exact h5, by rw [e4]; exact h6, by rw [e4]; exact h7, Or.inr ⟨rfl, e⟩⟩, rfl⟩
      · rw [e2, cl_s, nI_1]
        rw [e1] at e
        exact ⟨m1, 1, ⟨_, d1, hh, stepP_ok h3 e1, e3, by rw [e4, h5, nI_1], by rw [e5, h6], by rw [e6, h7], Or.inl ⟨rfl, e⟩⟩, rfl⟩
    · left
      rw [if_pos rfl]
      exact fin m x h1 h2 h4 h5 h6 h7 e
theorem rwalk_loop {σ : Mem} {A : Ab} {n : Nat} (hn : n ≤ 200) (y13 : Int32) (kk : Mem → Int32 → Int32 → Int32 → Option (Int32 × Mem)) :
    ∀ (k fuel : Nat) (m : Mem) (x : Wk), k < fuel → RInv m A → Lo σ m → Wok x.1 → RW m x.1 → x.2.1 + k = n →
      ∃ m', fX11_walk_L56 kk (nI n) y13 fuel m (nI x.2.1) x.2.2.1 x.2.2.2 1 = kk m' (nI (wk A.F A.n A.d.cel k x).2.1) (wk A.F A.n A.d.cel k x).2.2.1 (wk A.F A.n A.d.cel k x).2.2.2 ∧ RInv m' A ∧ Lo σ m' ∧ RW m' (wk A.F A.n A.d.cel k x).1 := by
  intro k
  induction k with
  | zero =>
    intro fuel m x hf h1 h2 h3 h4 h5
    cases fuel with
    | zero => omega
    | succ fuel =>
      show ∃ m', fX11_walk_L56_b kk (nI n) y13 (fX11_walk_L56 kk (nI n) y13 fuel) m (nI x.2.1) x.2.2.1 x.2.2.2 1 = _ ∧ _
      unfold fX11_walk_L56_b
      rw [if_neg (by decide), if_neg (nI_nlt (by omega) (by omega))]
      exact ⟨m, rfl, h1, h2, h4⟩
  | succ k ih =>
    intro fuel m x hf h1 h2 h3 h4 h5
    cases fuel with
    | zero => omega
    | succ fuel =>
      show ∃ m', fX11_walk_L56_b kk (nI n) y13 (fX11_walk_L56 kk (nI n) y13 fuel) m (nI x.2.1) x.2.2.1 x.2.2.2 1 = _ ∧ _
      unfold fX11_walk_L56_b
      obtain ⟨m1, d1, d2, d3⟩ := steps_ok h1 h4 h3
      have hh : Lo σ m1 := fun q hq => (d2 q hq).trans (h2 q hq)
      rw [if_neg (by decide), if_pos (nI_lt (by omega) (by omega)), h4.1]
      simp only [lt_e]
      rw [wk]
      rcases d3 with ⟨e1, e2, e3⟩ | ⟨s', e1, e2, e3⟩
      · rw [e2, cl_s, if_pos rfl, if_pos rfl, if_pos rfl, e1]
        cases fuel with
        | zero => omega
        | succ fuel =>
          have r0 : nI x.2.1 + 0 = nI x.2.1 := Int32.add_zero _
          have r1 : x.2.2.1 + 0 = x.2.2.1 := Int32.add_zero _
          have r2 : x.2.2.2 ||| 0 = x.2.2.2 := Int32.or_zero
          rw [r0, r1, r2]
          show ∃ m', fX11_walk_L56_b kk (nI n) y13 (fX11_walk_L56 kk (nI n) y13 fuel) m1 (nI x.2.1) x.2.2.1 x.2.2.2 0 = _ ∧ _
          unfold fX11_walk_L56_b
          rw [if_pos rfl]
          exact ⟨m1, rfl, d1, hh, e3⟩
      · have hcel := d1.now.2.1 x.1.1 h3.1
        obtain ⟨m2, c1, c2, c3⟩ := costsOf_ok d1 hcel
        have hc := d1.now.1.2.1 x.1.1 h3.1
        have h32 := h3.1
        rw [Nat.zero_add] at hc
        rw [e2, cl_s, if_neg (by decide), if_neg (by decide), e8, ck_t (inb_nI (show 8 + x.1.1 < 73 by omega) (by decide)), ix_nI (by omega), hc, c1, cl_s, if_neg (by decide), e1, show nI x.2.1 + 1 = nI (x.2.1 + 1) from nI_1 _]
        exact ih fuel m2 (s', x.2.1 + 1, x.2.2.1 + cstW A.F A.n (nI (A.d.cel x.1.1)), x.2.2.2 ||| (1 <<< (nI x.1.1 &&& 31))) (by omega) c2 (fun q hq => (c3.lo q hq).trans (hh q hq)) (stepP_ok h3 e1) ⟨by rw [c3.2 36 (by decide)]; exact e3.1, by rw [c3.2 37 (by decide)]; exact e3.2.1, fun i hi => by rw [c3.1 384 (by decide) (by decide) (by decide) (by decide)]; exact e3.2.2 i hi⟩ (by show x.2.1 + 1 + k = n; omega)
theorem rs_walk (a b c : Int32) : RS (fun σ => fX11_walk σ a b c) (gWalk a b c) := by
  intro σ A h
  show ∃ σ', fX11_walk σ a b c = _ ∧ _
  unfold fX11_walk gWalk
  rw [rcell, cl_s, lt_e]
  by_cases c1 : 0 ≤ a ∧ a ≤ 31
  case neg => rw [if_neg c1, if_pos rfl, if_neg (fun z => c1 z.1)]; exact rbad h
  rw [if_pos c1, if_neg (by decide), isInI σ b 0 200 0 200 rfl rfl, cl_s]
  by_cases c2 : 0 ≤ b ∧ b ≤ 200
  case neg => rw [if_neg c2, if_pos rfl, if_neg (fun z => c2 z.2.1)]; exact rbad h
  rw [if_pos c2, if_neg (by decide), isInI σ c 0 4 0 4 rfl rfl, cl_s]
  by_cases c3 : 0 ≤ c ∧ c ≤ 4
  case neg => rw [if_neg c3, if_pos rfl, if_neg (fun z => c3 z.2.2)]; exact rbad h
  rw [if_pos c3, if_neg (by decide), if_pos (show (0 ≤ a ∧ a ≤ 31) ∧ (0 ≤ b ∧ b ≤ 200) ∧ (0 ≤ c ∧ c ≤ 4) from ⟨c1, c2, c3⟩)]
  obtain ⟨i, hi, rfl⟩ := rngL (n := 31) c1 (by decide)
  obtain ⟨n, hn, rfl⟩ := rngL (n := 200) c2 (by decide)
  obtain ⟨s, b1, b2, b3, b4⟩ := begins_ok h (a := i)
  rw [b1, cl_s, ix_nI (by omega), ix_nI (by omega)]
  obtain ⟨m', d1, d2, d3, d4⟩ := rwalk_loop (σ := σ) (A := A) hn c (fun (m22 : Mem) (x23 : Int32) (x24 : Int32) (x25 : Int32) =>
            if c = (0 : Int32) then
              some ((m22 362 36), m22)
            else
              if c = (1 : Int32) then
                some (x23, m22)
              else
                if c = (2 : Int32) then
                  some (x24, m22)
                else
                  if c = (3 : Int32) then
                    some ((m22 362 37), m22)
                  else
                    some (x25, m22)) n 201 s (w0 i, 0, 0, 0) (by omega) b2 b3 (w0_ok (by omega)) b4 (by show 0 + n = n; omega)
  rw [show nI (w0 i, 0, (0 : Int32), (0 : Int32)).2.1 = (0 : Int32) from rfl] at d1
  rw [show fX11_walk_L56 _ (nI n) c 201 s 0 0 0 1 = _ from d1]
  refine ⟨m', ?_, d2, d3⟩
  show (if c = 0 then some (m' 362 36, m') else _) = _
  rw [d4.1, d4.2.1]
  unfold ansW
  split
  · rfl
  · split
    · rfl
    · split
      · rfl
      · split <;> rfl
/-- halts -/
def hlt (F : Nat → Fm) (n : Nat) (cel : Nat → Nat) : Nat → Nat → Wl → Option Nat
  | 0, _, _ => none
  | k + 1, i, s => match stepP F n cel s with
    | none => some i
    | some s' => hlt F n cel k (i + 1) s'
theorem hlt_s {F : Nat → Fm} {n : Nat} {cel : Nat → Nat} {k : Nat} (hk : k < 201) (x : Wl) : hlt F n cel (201 - k) k x = match stepP F n cel x with | none => some k | some s' => hlt F n cel (201 - (k + 1)) (k + 1) s' := by
  obtain ⟨j, h1, h2⟩ : ∃ j, 201 - k = j + 1 ∧ 201 - (k + 1) = j := ⟨200 - k, by omega, by omega⟩
  rw [h1, h2, hlt]
def gHalts (a : Int32) (A : Ab) : Int32 × Ab := if 0 ≤ a ∧ a ≤ 31 then (ansO (hlt A.F A.n A.d.cel 201 0 (w0 (ix a))), A) else bad A
theorem cs_halts (a : Int32) : CS (fun σ => fX10_halts σ a) (gHalts a) := by
  intro σ A h
  show ∃ σ', fX10_halts σ a = _ ∧ _
  unfold fX10_halts gHalts
  rw [ccell, cl_s]
  by_cases c1 : 0 ≤ a ∧ a ≤ 31
  case neg => rw [if_neg c1, if_pos rfl, if_neg c1]; exact cbad h
  obtain ⟨i, hi, rfl⟩ := rngL (n := 31) c1 (by decide)
  obtain ⟨s, b1, b2, b3, b4, _⟩ := startAt_ok h (show i < 32 by omega)
  rw [if_pos c1, if_neg (by decide), if_pos c1, b1, cl_s, ix_nI (by omega)]
  refine loopM (fX10_halts_L25 (fun (m10 : Mem) (x11 : Int32) => some (x11, m10)) (fun (m13 : Mem) => some ((-1 : Int32), m13))) (fX10_halts_L25_b (fun (m10 : Mem) (x11 : Int32) => some (x11, m10)) (fun (m13 : Mem) => some ((-1 : Int32), m13))) (fun _ _ _ => rfl) 201
    (fun k m => ∃ x : Wl, CInv m A ∧ Hi σ m ∧ Wok x ∧ CW m x ∧ hlt A.F A.n A.d.cel 201 0 (w0 i) = hlt A.F A.n A.d.cel (201 - k) k x)
    (fun r => ∃ σ', r = some (ansO (hlt A.F A.n A.d.cel 201 0 (w0 i)), σ') ∧ CInv σ' A ∧ Hi σ σ') ?_ ?_ 5000 0 s (by omega) (by omega) ⟨w0 i, b2, b3, w0_ok (by omega), b4, rfl⟩
  · rintro m rec ⟨x, h1, h2, h3, h4, e⟩
    unfold fX10_halts_L25_b
    rw [if_pos (by decide), e]
    exact ⟨m, rfl, h1, h2⟩
  · rintro k m rec hk ⟨x, h1, h2, h3, h4, e⟩
    unfold fX10_halts_L25_b
    rw [if_neg (show ¬ 200 < nI k from nI_nlt (a := 200) (by omega) (by omega))]
    obtain ⟨m1, d1, d2, d3⟩ := stepOn_ok h1 h4 h3
    have hh : Hi σ m1 := fun q hq => (d2 q hq).trans (h2 q hq)
    rw [hlt_s hk x] at e
    rcases d3 with ⟨e1, e2, e3, e4⟩ | ⟨s', e1, e2, e3, e4, e5, e6⟩
    · left
      rw [e1] at e
      rw [e2, cl_s, if_pos rfl, e]
      exact ⟨m1, rfl, d1, hh⟩
    · right
      rw [e1] at e
      rw [e2, cl_s, if_neg (by decide), nI_1]
      exact ⟨m1, ⟨s', d1, hh, stepP_ok h3 e1, e3, e⟩, rfl⟩
theorem rs_halts (a : Int32) : RS (fun σ => fX11_halts σ a) (gHalts a) := by
  intro σ A h
  show ∃ σ', fX11_halts σ a = _ ∧ _
  unfold fX11_halts gHalts
  rw [rcell, cl_s]
  by_cases c1 : 0 ≤ a ∧ a ≤ 31
  case neg => rw [if_neg c1, if_pos rfl, if_neg c1]; exact rbad h
  obtain ⟨i, hi, rfl⟩ := rngL (n := 31) c1 (by decide)
  obtain ⟨s, b1, b2, b3, b4⟩ := begins_ok h (a := i)
  rw [if_pos c1, if_neg (by decide), if_pos c1, b1, cl_s, ix_nI (by omega)]
  refine loopM (fX11_halts_L22 (fun (m10 : Mem) (x11 : Int32) => some (x11, m10)) (fun (m13 : Mem) => some ((-1 : Int32), m13))) (fX11_halts_L22_b (fun (m10 : Mem) (x11 : Int32) => some (x11, m10)) (fun (m13 : Mem) => some ((-1 : Int32), m13))) (fun _ _ _ => rfl) 201
    (fun k m => ∃ x : Wl, RInv m A ∧ Lo σ m ∧ Wok x ∧ RW m x ∧ hlt A.F A.n A.d.cel 201 0 (w0 i) = hlt A.F A.n A.d.cel (201 - k) k x)
    (fun r => ∃ σ', r = some (ansO (hlt A.F A.n A.d.cel 201 0 (w0 i)), σ') ∧ RInv σ' A ∧ Lo σ σ') ?_ ?_ 202 0 s (by omega) (by omega) ⟨w0 i, b2, b3, w0_ok (by omega), b4, rfl⟩
  · rintro m rec ⟨x, h1, h2, h3, h4, e⟩
    unfold fX11_halts_L22_b
    rw [if_pos (by decide), e]
    exact ⟨m, rfl, h1, h2⟩
  · rintro k m rec hk ⟨x, h1, h2, h3, h4, e⟩
    unfold fX11_halts_L22_b
    rw [if_neg (show ¬ 200 < nI k from nI_nlt (a := 200) (by omega) (by omega))]
    obtain ⟨m1, d1, d2, d3⟩ := steps_ok h1 h4 h3
    have hh : Lo σ m1 := fun q hq => (d2 q hq).trans (h2 q hq)
    rw [hlt_s hk x] at e
    rcases d3 with ⟨e1, e2, e3⟩ | ⟨s', e1, e2, e3⟩
    · left
      rw [e1] at e
      rw [e2, cl_s, if_pos rfl, e]
      exact ⟨m1, rfl, d1, hh⟩
    · right
      rw [e1] at e
      rw [e2, cl_s, if_neg (by decide), nI_1]
      exact ⟨m1, ⟨s', d1, hh, stepP_ok h3 e1, e3, e⟩, rfl⟩
