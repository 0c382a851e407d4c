/-! ===== run ===== -/
def meetD (d : Dd) (a : Int32) : Dd := if hasM d a = true then d else if d.mc = 32 then (d.hand, d.cel, 32, fun i => if i = 31 then a else d.met (i + 1)) else (d.hand, d.cel, d.mc + 1, fun i => if i = d.mc then a else d.met i)
theorem meetD_cel (d : Dd) (a : Int32) : (meetD d a).cel = d.cel := by
  unfold meetD
  split
  · rfl
  · split <;> rfl
theorem meetD_ok {d : Dd} (h : Dok d) (a : Int32) : Dok (meetD d a) := by
  unfold meetD
  split
  · exact h
  · split
    · exact ⟨h.1, Nat.le_refl 32, h.2.2⟩
    · refine ⟨h.1, ?_, h.2.2⟩
      have := h.2.1
      show d.mc + 1 ≤ 32
      omega
theorem meet_ok {σ : Mem} {d : Dd} (h : CDeeds σ 283 d) (hd : Dok d) (a : Int32) : ∃ σ', fX1_meet 283 σ a = some ((), σ') ∧ CDeeds σ' 283 (meetD d a) ∧ ∀ q, q ≠ 283 → q ≠ 286 → σ' q = σ q := by
  have hm := hd.2.1
  unfold fX1_meet meetD
  rw [hasMet_ok h hd, cl_s]
  by_cases c : hasM d a = true
  · rw [if_pos c, if_neg (by decide), if_pos c]
    exact ⟨σ, rfl, h, fun _ _ _ => rfl⟩
  rw [if_neg c, if_pos rfl, if_neg c]
  simp only [lt_e]
  rw [h.2.2.1]
  by_cases e : d.mc = 32
  · rw [if_pos (show nI d.mc = 32 by rw [e]; rfl), if_pos e, sto_eq, e, show nI 32 - 1 = nI 31 from rfl, ck_t (by decide), show ix (1 : Int32) = 1 from rfl, show ix (0 : Int32) = 0 from rfl, show ix (nI 31) = 31 from rfl]
    have hs : ∀ q, q ≠ 283 + 3 → cpy (sto σ 283 3 (nI 31)) (283 + 3) (283 + 3) 1 0 31 q = sto σ 283 3 (nI 31) q := fun q hq => by rw [cpy, if_neg hq]
    have h3 : cpy (sto σ 283 3 (nI 31)) (283 + 3) (283 + 3) 1 0 31 283 3 = nI 31 := by rw [hs 283 (by decide), sto_eq]
    rw [h3, ck_t (by decide), show ix (nI 31) = 31 from rfl, sto_ne (show (283 : Nat) ≠ 283 + 3 by decide), h3]
    refine ⟨_, rfl, ⟨fun i hi => ?_, fun i hi => ?_, by rw [sto_eq]; rfl, fun i hi => ?_⟩, fun q x y => by rw [sto_ne x, sto_ne y, hs q y, sto_ne x]⟩
    · rw [sto_ne (by decide), sto_ne (by decide), hs _ (by decide), sto_ne (by decide)]; exact h.1 i hi
    · rw [sto_ne (by decide), sto_ne (by decide), hs _ (by decide), sto_ne (by decide)]; exact h.2.1 i hi
    · show _ = if i = 31 then a else d.met (i + 1)
      have hi2 : i < 32 := hi
      rw [sto_ne (by decide)]
      by_cases z : i = 31
      · subst z; rw [sto_eq, if_pos rfl]
      · rw [sto_nj z, if_neg z, cpy, if_pos rfl, pk_cpy_in (Nat.zero_le _) (by omega), sto_ne (by decide), Nat.sub_zero, Nat.add_comm 1 i]
        exact h.2.2.2 (i + 1) (by omega)
  · rw [if_neg (show ¬ nI d.mc = 32 from fun z => e ((nI_eq (b := 32) (by omega) (by decide)).mp z)), if_neg e, ck_t (inb_nI (show d.mc < 32 by omega) (by decide)), ix_nI (by omega), sto_ne (show (283 : Nat) ≠ 283 + 3 by decide), h.2.2.1, nI_1]
    refine ⟨_, rfl, ⟨fun i hi => ?_, fun i hi => ?_, sto_eq, fun i hi => ?_⟩, fun q x y => by rw [sto_ne x, sto_ne y]⟩
    · rw [sto_ne (by decide), sto_ne (by decide)]; exact h.1 i hi
    · rw [sto_ne (by decide), sto_ne (by decide)]; exact h.2.1 i hi
    · show _ = if i = d.mc then a else d.met i
      have hi2 : i < d.mc + 1 := hi
      rw [sto_ne (by decide)]
      by_cases z : i = d.mc
      · subst z; rw [sto_eq, if_pos rfl]
      · rw [sto_nj z, if_neg z]; exact h.2.2.2 i (by omega)
theorem e40 (x : Nat) : (40 : Int32) + nI x = nI (40 + x) := nI_add 40 x
theorem meets_ok {σ : Mem} {d : Dd} (h : RDeeds σ 375 0 d) (hd : Dok d) (a : Int32) : ∃ σ', fX11_meets σ a = some ((), σ') ∧ RDeeds σ' 375 0 (meetD d a) ∧ ∀ q, q ≠ 375 → σ' q = σ q := by
  have hm := hd.2.1
  obtain ⟨y, y1, y2⟩ := placeMet_ok h hd a
  have i72 : inb (72 : Int32) 73 = true := by decide
  have x72 : ix (72 : Int32) = 72 := rfl
  unfold fX11_meets meetD
  rw [y1, cl_s]
  by_cases c : hasM d a = true
  · rw [if_neg (fun z => by rw [y2.mp z] at c; cases c), if_pos c]
    exact ⟨σ, rfl, h, fun _ _ => rfl⟩
  rw [if_pos (y2.mpr (by simpa using c)), if_neg c]
  simp only [lt_e, ck_t i72, x72]
  have e72 : σ 375 72 = nI d.mc := h.2.2.1
  have fin : ∀ (m : Mem) (k : Nat) (mt : Nat → Int32), k < 32 → m 375 72 = nI k → (∀ i, i < 40 → m 375 i = σ 375 i) → (∀ i, i < k → m 375 (40 + i) = mt i) → (∀ q, q ≠ 375 → m q = σ q) →
      ∃ σ', ck (inb (40 + m 375 72) 73) (some ((), sto (sto m 375 (ix (40 + m 375 72)) a) 375 72 (sto m 375 (ix (40 + m 375 72)) a 375 72 + 1))) = some ((), σ') ∧ RDeeds σ' 375 0 (d.hand, d.cel, k + 1, fun i => if i = k then a else mt i) ∧ ∀ q, q ≠ 375 → σ' q = σ q := by
    intro m k mt hk p1 p2 p3 p4
    rw [p1, e40, ck_t (inb_nI (show 40 + k < 73 by omega) (by decide)), ix_nI (by omega), sto_nj (show (72 : Nat) ≠ 40 + k by omega), p1, nI_1]
    refine ⟨_, rfl, ⟨fun i hi => ?_, fun i hi => ?_, by rw [Nat.zero_add]; exact sto_eq, fun i hi => ?_⟩, fun q hq => by rw [sto_ne hq, sto_ne hq]; exact p4 q hq⟩
    · rw [sto_nj (by omega), sto_nj (by omega), p2 _ (by omega)]; exact h.1 i hi
    · rw [sto_nj (by omega), sto_nj (by omega), p2 _ (by omega)]; exact h.2.1 i hi
    · show _ = if i = k then a else mt i
      have hi2 : i < k + 1 := hi
      rw [Nat.zero_add, sto_nj (by omega)]
      by_cases z : i = k
      · subst z; rw [sto_eq, if_pos rfl]
      · rw [sto_nj (by omega), if_neg z]; exact p3 i (by omega)
  rw [e72]
  by_cases e : d.mc = 32
  · rw [if_pos (show nI d.mc = 32 by rw [e]; rfl), if_pos e]
    refine loopM (fX11_meets_L23 _ a) (fX11_meets_L23_b _ a) (fun _ _ _ => rfl) 31
      (fun k m => (∀ q, q ≠ 375 → m q = σ q) ∧ (∀ i, i < 40 → m 375 i = σ 375 i) ∧ m 375 72 = nI 32 ∧ ∀ i, i < 32 → m 375 (40 + i) = if i < k then d.met (i + 1) else d.met i)
      (fun r => ∃ σ', r = some ((), σ') ∧ RDeeds σ' 375 0 (d.hand, d.cel, 32, fun i => if i = 31 then a else d.met (i + 1)) ∧ ∀ q, q ≠ 375 → σ' q = σ q) ?_ ?_ 5000 0 σ (by omega) (by omega) ⟨fun _ _ => rfl, fun _ _ => rfl, by rw [e72, e], fun i hi => by rw [if_neg (by omega)]; have := h.2.2.2 i (by omega); rw [Nat.zero_add] at this; exact this⟩
    · rintro m rec ⟨h1, h2, h3, h4⟩
      unfold fX11_meets_L23_b
      rw [if_neg (by decide)]
      have := fin (sto m 375 72 (m 375 72 - 1)) 31 (fun i => d.met (i + 1)) (by decide) (by rw [sto_eq, h3]; rfl) (fun i hi => by rw [sto_nj (by omega)]; exact h2 i hi) (fun i hi => by rw [sto_nj (by omega), h4 i (by omega), if_pos hi]) (fun q hq => by rw [sto_ne hq]; exact h1 q hq)
      simp only [ck_t i72, x72, lt_e]
      exact this
    · rintro k m rec hk ⟨h1, h2, h3, h4⟩
      right
      unfold fX11_meets_L23_b
      rw [if_pos (show nI k < 31 from nI_lt (b := 31) hk (by decide)), e40, nI_1, nI_1, ck_t (inb_nI (show 40 + k + 1 < 73 by omega) (by decide)), ck_t (inb_nI (show 40 + k < 73 by omega) (by decide)), lt_e, ix_nI (by omega), ix_nI (by omega)]
      refine ⟨_, ⟨fun q hq => by rw [sto_ne hq]; exact h1 q hq, fun i hi => by rw [sto_nj (by omega)]; exact h2 i hi, by rw [sto_nj (by omega)]; exact h3, fun i hi => ?_⟩, rfl⟩
      by_cases z : i = k
      · subst z
        rw [sto_eq, show 40 + i + 1 = 40 + (i + 1) by omega, h4 (i + 1) (by omega), if_neg (by omega), if_pos (by omega)]
      · rw [sto_nj (by omega), h4 i hi]
        have : (i < k + 1) ↔ (i < k) := by omega
        simp only [this]
  · rw [if_neg (show ¬ nI d.mc = 32 from fun z => e ((nI_eq (b := 32) (by omega) (by decide)).mp z)), if_neg e, ← e72]
    exact fin σ d.mc d.met (by omega) e72 (fun _ _ => rfl) (fun i hi => by have := h.2.2.2 i hi; rw [Nat.zero_add] at this; exact this) (fun _ _ => rfl)
def rn (F : Nat → Fm) (n : Nat) : Nat → Wl → Dd → Dd
  | 0, _, d => d
  | k + 1, s, d => match stepP F n d.cel s with
    | none => d
    | some s' => rn F n k s' (meetD d (nI (d.cel s.1)))
def gRun (a b : Int32) (A : Ab) : Int32 × Ab := if (0 ≤ a ∧ a ≤ 31) ∧ (1 ≤ b ∧ b ≤ 200) then (nI (rn A.F A.n (ix b) (w0 (ix a)) A.d).mc, setD (remA A) (rn A.F A.n (ix b) (w0 (ix a)) A.d)) else bad A
theorem of1200 {a : Int32} (h : 1 ≤ a ∧ a ≤ 200) : ∃ n, n ≤ 200 ∧ a = nI n := by
  obtain ⟨n, hn, e⟩ := rngL (n := 200) ⟨Int32.le_trans (show (0 : Int32) ≤ 1 by decide) h.1, h.2⟩ (by decide)
  exact ⟨n, hn, e⟩
theorem setD_self (A : Ab) : setD A A.d = A := rfl
theorem cs_run (a b : Int32) : CS (fun σ => fX10_run σ a b) (gRun a b) := by
  intro σ A h
  show ∃ σ', fX10_run σ a b = _ ∧ _
  unfold fX10_run gRun
  rw [ccell, cl_s, lt_e]
  by_cases c1 : 0 ≤ a ∧ a ≤ 31
  case neg => rw [if_neg c1, if_pos rfl, if_neg (fun z => c1 z.1)]; exact cbad h
  rw [if_pos c1, if_neg (by decide), within_ok, cl_s]
  by_cases c2 : 1 ≤ b ∧ b ≤ 200
  case neg => rw [if_neg c2, if_pos rfl, if_neg (fun z => c2 z.2)]; exact cbad h
  rw [if_pos c2, if_neg (by decide), if_pos (show (0 ≤ a ∧ a ≤ 31) ∧ (1 ≤ b ∧ b ≤ 200) from ⟨c1, c2⟩)]
  obtain ⟨i, hi, rfl⟩ := rngL (n := 31) c1 (by decide)
  obtain ⟨n, hn, rfl⟩ := of1200 c2
  obtain ⟨s0, a1, a2, a3⟩ := remember_ok h
  obtain ⟨s, b1, b2, b3, b4, _⟩ := startAt_ok a2 (show i < 32 by omega)
  rw [a1, cl_s, b1, cl_s, ix_nI (by omega), ix_nI (by omega)]
  have hh0 : Hi σ s := fun q hq => (b3 q hq).trans (a3 q hq)
  refine loopM (fX10_run_L40 (fun (m14 : Mem) => some ((m14 283 3), m14)) (fun (m16 : Mem) => some ((m16 283 3), m16)) (nI n)) (fX10_run_L40_b (fun (m14 : Mem) => some ((m14 283 3), m14)) (fun (m16 : Mem) => some ((m16 283 3), m16)) (nI n)) (fun _ _ _ => rfl) n
    (fun k m => ∃ (x : Wl) (d : Dd), CInv m (setD (remA A) d) ∧ Hi σ m ∧ Wok x ∧ CW m x ∧ rn A.F A.n n (w0 i) A.d = rn A.F A.n (n - k) x d)
    (fun r => ∃ σ', r = some (nI (rn A.F A.n n (w0 i) A.d).mc, σ') ∧ CInv σ' (setD (remA A) (rn A.F A.n n (w0 i) A.d)) ∧ Hi σ σ') ?_ ?_ 5000 0 s (by omega) (by omega) ⟨w0 i, A.d, b2, hh0, w0_ok (by omega), b4, rfl⟩
  · rintro m rec ⟨x, d, h1, h2, h3, h4, e⟩
    unfold fX10_run_L40_b
    rw [if_neg (nI_nlt (Nat.le_refl n) (by omega))]
    rw [Nat.sub_self, rn] at e
    rw [e]
    exact ⟨m, by show some (m 283 3, m) = _; rw [h1.now.1.2.2.1]; rfl, h1, h2⟩
  · rintro k m rec hk ⟨x, d, h1, h2, h3, h4, e⟩
    unfold fX10_run_L40_b
    obtain ⟨m1, d1, d2, d3⟩ := stepOn_ok h1 h4 h3
    have hh : Hi σ m1 := fun q hq => (d2 q hq).trans (h2 q hq)
    have h32 := h3.1
    rw [if_pos (nI_lt hk (by omega)), h4.1, ck_t (inb_nI h32 (by decide)), ix_nI (by omega), lt_e, show m 284 x.1 = nI (d.cel x.1) from h1.now.1.1 _ h32]
    rw [show n - k = (n - (k + 1)) + 1 by omega, rn.eq_2] at e
    rcases d3 with ⟨e1, e2, e3, e4⟩ | ⟨s', e1, e2, e3, e4, e5, e6⟩
    · left
      rw [show stepP A.F A.n d.cel x = none from e1] at e
      rw [e2, cl_s, if_pos rfl, e]
      exact ⟨m1, by show some (m1 283 3, m1) = _; rw [d1.now.1.2.2.1]; rfl, d1, hh⟩
    · right
      rw [show stepP A.F A.n d.cel x = some s' from e1] at e
      obtain ⟨m2, f1, f2, f3⟩ := meet_ok d1.now.1 d1.now.2 (nI (d.cel x.1))
      rw [e2, cl_s, if_neg (by decide), f1, cl_s, nI_1]
      exact ⟨m2, ⟨s', meetD d (nI (d.cel x.1)), d1.setD (fun q hq => f3 q (by omega) (by omega)) f2 (meetD_ok d1.now.2 _), fun q hq => by rw [f3 q (by omega) (by omega)]; exact hh q hq, stepP_ok h3 e1, by unfold CW; rw [f3 296 (by decide) (by decide), f3 297 (by decide) (by decide)]; exact e3, e⟩, rfl⟩
theorem rs_run (a b : Int32) : RS (fun σ => fX11_run σ a b) (gRun a b) := by
  intro σ A h
  show ∃ σ', fX11_run σ a b = _ ∧ _
  unfold fX11_run gRun
  rw [rcell, cl_s, lt_e]
  by_cases c1 : 0 ≤ a ∧ a ≤ 31
  case neg => rw [if_neg c1, if_pos rfl, if_neg (fun z => c1 z.1)]; exact rbad h
  rw [if_pos c1, if_neg (by decide), isInI σ b 1 200 1 200 rfl rfl, cl_s]
  by_cases c2 : 1 ≤ b ∧ b ≤ 200
  case neg => rw [if_neg c2, if_pos rfl, if_neg (fun z => c2 z.2)]; exact rbad h
  rw [if_pos c2, if_neg (by decide), if_pos (show (0 ≤ a ∧ a ≤ 31) ∧ (1 ≤ b ∧ b ≤ 200) from ⟨c1, c2⟩)]
  obtain ⟨i, hi, rfl⟩ := rngL (n := 31) c1 (by decide)
  obtain ⟨n, hn, rfl⟩ := of1200 c2
  obtain ⟨s0, a1, a2, a3⟩ := notes_ok h
  obtain ⟨s, b1, b2, b3, b4⟩ := begins_ok a2 (a := i)
  rw [a1, cl_s, b1, cl_s, ix_nI (by omega), ix_nI (by omega)]
  have hh0 : Lo σ s := fun q hq => (b3 q hq).trans (a3 q hq)
  have fin : ∀ (m : Mem) (d : Dd), RInv m (setD (remA A) d) → Lo σ m → rn A.F A.n n (w0 i) A.d = d → ∃ σ', (ck (inb (72 : Int32) 73) <| some ((m 375 (ix (72 : Int32))), m)) = some (nI (rn A.F A.n n (w0 i) A.d).mc, σ') ∧ RInv σ' (setD (remA A) (rn A.F A.n n (w0 i) A.d)) ∧ Lo σ σ' := by
    intro m d h1 h2 e
    have e72 : m 375 (ix 72) = nI d.mc := h1.now.1.2.2.1
    rw [ck_t (by decide), e72, e]
    exact ⟨m, rfl, h1, h2⟩
  refine loopA (fX11_run_L41 (fun (m15 : Mem) => ck (inb (72 : Int32) 73) <| some ((m15 375 (ix (72 : Int32))), m15)) (nI n)) (fX11_run_L41_b (fun (m15 : Mem) => ck (inb (72 : Int32) 73) <| some ((m15 375 (ix (72 : Int32))), m15)) (nI n)) (fun _ _ _ _ => rfl) n
    (fun k m t => ∃ (x : Wl) (d : Dd), RInv m (setD (remA A) d) ∧ Lo σ m ∧ Wok x ∧ RW m x ∧ ((t = 1 ∧ rn A.F A.n n (w0 i) A.d = rn A.F A.n (n - k) x d) ∨ (t = 0 ∧ rn A.F A.n n (w0 i) A.d = d)))
    (fun r => ∃ σ', r = some (nI (rn A.F A.n n (w0 i) A.d).mc, σ') ∧ RInv σ' (setD (remA A) (rn A.F A.n n (w0 i) A.d)) ∧ Lo σ σ') ?_ ?_ 201 0 s 1 (by omega) (by omega) ⟨w0 i, A.d, b2, hh0, w0_ok (by omega), b4, Or.inl ⟨rfl, rfl⟩⟩
  · rintro m t rec ⟨x, d, h1, h2, h3, h4, h5⟩
    unfold fX11_run_L41_b
    rw [if_neg (nI_nlt (Nat.le_refl n) (by omega))]
    refine fin m d h1 h2 ?_
    rcases h5 with ⟨_, e⟩ | ⟨_, e⟩
    · rw [Nat.sub_self, rn] at e; exact e
    · exact e
  · rintro k m t rec hk ⟨x, d, h1, h2, h3, h4, h5⟩
    unfold fX11_run_L41_b
    rw [if_pos (nI_lt hk (by omega))]
    rcases h5 with ⟨rfl, e⟩ | ⟨rfl, e⟩
    · right
      obtain ⟨m1, d1, d2, d3⟩ := steps_ok h1 h4 h3
      have hh : Lo σ m1 := fun q hq => (d2 q hq).trans (h2 q hq)
      have h32 := h3.1
      have hc := h1.now.1.2.1 x.1 h32
      rw [Nat.zero_add] at hc
      rw [if_neg (by decide), h4.1, e8, ck_t (inb_nI (show 8 + x.1 < 73 by omega) (by decide)), ix_nI (by omega), lt_e, show m 375 (8 + x.1) = nI (d.cel x.1) from hc]
      simp only [lt_e]
      rw [show n - k = (n - (k + 1)) + 1 by omega, rn.eq_2] at e
      rcases d3 with ⟨e1, e2, e3⟩ | ⟨s', e1, e2, e3⟩
      · rw [show stepP A.F A.n d.cel x = none from e1] at e
        rw [e2, cl_s, if_pos rfl, nI_1]
        exact ⟨m1, 0, ⟨x, d, d1, hh, h3, e3, Or.inr ⟨rfl, e⟩⟩, rfl⟩
      · rw [show stepP A.F A.n d.cel x = some s' from e1] at e
        obtain ⟨m2, f1, f2, f3⟩ := meets_ok d1.now.1 d1.now.2 (nI (d.cel x.1))
        rw [e2, cl_s, if_neg (by decide), f1, cl_s, nI_1]
        exact ⟨m2, 1, ⟨s', meetD d (nI (d.cel x.1)), d1.setD (fun j _ => by rw [f3 362 (by decide)]) (fun q _ _ hq => f3 q hq) f2 (meetD_ok d1.now.2 _), fun q hq => by rw [f3 q (by omega)]; exact hh q hq, stepP_ok h3 e1, by unfold RW; rw [f3 362 (by decide), f3 384 (by decide)]; exact e3, Or.inl ⟨rfl, e⟩⟩, rfl⟩
    · left
      rw [if_pos rfl]
      exact fin m d h1 h2 e
