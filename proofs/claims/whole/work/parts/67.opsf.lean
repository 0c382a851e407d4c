/-! ===== forget, new forms, image, back ===== -/
theorem fill_loop {q N : Nat} (hN : N < 5000) (hal : al q = N) (v : Int32) (kk : Mem → Option (Unit × Mem)) :
    ∀ (r fuel i : Nat) (m : Mem), i + r = N → r < fuel →
      ∃ m', fJ7_fill_53178_L5 kk q v (nI N) fuel m (nI i) = kk m' ∧ (∀ p, p ≠ q → m' p = m p) ∧ (∀ j, i ≤ j → j < N → m' q j = v) ∧ ∀ j, j < i ∨ N ≤ j → m' q j = m q j := by
  intro r
  induction r with
  | zero =>
    intro fuel i m hi hf
    cases fuel with
    | zero => omega
    | succ fuel =>
      show ∃ m', fJ7_fill_53178_L5_b kk q v (nI N) (fJ7_fill_53178_L5 kk q v (nI N) fuel) m (nI i) = kk m' ∧ _
      unfold fJ7_fill_53178_L5_b
      rw [if_neg (nI_nlt (by omega) (by omega))]
      exact ⟨m, rfl, fun _ _ => rfl, fun j a b => by omega, fun _ _ => rfl⟩
  | succ r ih =>
    intro fuel i m hi hf
    cases fuel with
    | zero => omega
    | succ fuel =>
      show ∃ m', fJ7_fill_53178_L5_b kk q v (nI N) (fJ7_fill_53178_L5 kk q v (nI N) fuel) m (nI i) = kk m' ∧ _
      unfold fJ7_fill_53178_L5_b
      rw [if_pos (nI_lt (by omega) (by omega)), hal, ck_t (inb_nI (show i < N by omega) (by omega)), lt_e, ix_nI (by omega), nI_1]
      obtain ⟨m', a1, a2, a3, a4⟩ := ih fuel (i + 1) (sto m q i v) (by omega) (by omega)
      refine ⟨m', a1, fun p hp => by rw [a2 p hp, sto_ne hp], fun j h1 h2 => ?_, fun j hj => ?_⟩
      · by_cases e : j = i
        · subst e
          rw [a4 _ (by omega), sto_eq]
        · exact a3 j (by omega) h2
      · rw [a4 j (by omega), sto_nj (by omega)]
theorem fill_ok {q N : Nat} (hN : N < 5000) (hal : al q = N) (v : Int32) (m : Mem) :
    ∃ m', fJ7_fill_53178 m q v = some ((), m') ∧ (∀ p, p ≠ q → m' p = m p) ∧ ∀ j, j < N → m' q j = v := by
  unfold fJ7_fill_53178
  obtain ⟨m', a1, a2, a3, a4⟩ := fill_loop hN hal v (fun m8 => some ((), m8)) N 5000 0 m (by omega) (by omega)
  rw [lt_e, hal]
  exact ⟨m', a1, a2, fun j hj => a3 j (by omega) hj⟩
theorem forgetA {n : Nat} {F : Nat → Fm} {i : Nat} (hi : i < n) (kk : Mem → Option (Unit × Mem)) :
    ∀ (c fuel j : Nat) (m : Mem), j + c = n → c < fuel → CForms m n F → m 277 i = mkS (fun o => ovrP (F i) (F o)) j →
      ∃ m', fX6_forget_L35 kk (nI i) fuel m (nI j) = kk m' ∧ (∀ q, q ≠ 277 → m' q = m q) ∧ m' 277 i = mkS (fun o => ovrP (F i) (F o)) n ∧ ∀ o, o ≠ i → m' 277 o = m 277 o := by
  intro c
  induction c with
  | zero =>
    intro fuel j m hj hf hC hv
    cases fuel with
    | zero => omega
    | succ fuel =>
      show ∃ m', fX6_forget_L35_b kk (nI i) (fX6_forget_L35 kk (nI i) fuel) m (nI j) = kk m' ∧ _
      unfold fX6_forget_L35_b
      have hn := hC.2.1
      have : j = n := by omega
      subst this
      rw [hC.1, if_neg (nI_nlt (by omega) (by omega))]
      exact ⟨m, rfl, fun _ _ => rfl, hv, fun _ _ => rfl⟩
  | succ c ih =>
    intro fuel j m hj hf hC hv
    cases fuel with
    | zero => omega
    | succ fuel =>
      show ∃ m', fX6_forget_L35_b kk (nI i) (fX6_forget_L35 kk (nI i) fuel) m (nI j) = kk m' ∧ _
      unfold fX6_forget_L35_b
      have hn := hC.2.1
      have hb := inb_nI (show i < 12 by omega) (show 12 < 2 ^ 31 by decide)
      rw [hC.1, if_pos (nI_lt (show j < n by omega) (by omega)), ck_t hb, ck_t (inb_nI (show j < 12 by omega) (by decide)), ix_nI (by omega), ix_nI (by omega), cIsOver_ok (hC.2.2 i hi).1 (hC.2.2 j (by omega)).1, cl_s, lt_e, nI_1]
      by_cases o : ovrP (F i) (F j) = true
      · rw [if_pos o, if_neg (by decide), ck_t hb, ck_t hb, lt_e]
        obtain ⟨m', a1, a2, a3, a4⟩ := ih fuel (j + 1) (sto m 277 i (m 277 i ||| 1 <<< (nI j &&& 31))) (by omega) (by omega) (hC.congr (fun q _ _ => sto_ne (by omega))) (by rw [sto_eq, hv, mkS, if_pos o])
        exact ⟨m', a1, fun q hq => by rw [a2 q hq, sto_ne hq], a3, fun p hp => by rw [a4 p hp, sto_nj hp]⟩
      · rw [if_neg o, if_pos rfl]
        exact ih fuel (j + 1) m (by omega) (by omega) hC (by rw [hv, mkS, if_neg o]; simp)
theorem forgetB {n : Nat} {F : Nat → Fm} (kk : Mem → Option (Unit × Mem)) :
    ∀ (c fuel i : Nat) (m : Mem), i + c = n → c < fuel → CForms m n F → (∀ o, o < i → m 277 o = mkS (fun j => ovrP (F o) (F j)) n) →
      ∃ m', fX6_forget_L15 kk fuel m (nI i) = kk m' ∧ (∀ q, q ≠ 277 → m' q = m q) ∧ COver m' n F := by
  intro c
  induction c with
  | zero =>
    intro fuel i m hi hf hC hv
    cases fuel with
    | zero => omega
    | succ fuel =>
      show ∃ m', fX6_forget_L15_b kk (fX6_forget_L15 kk fuel) m (nI i) = kk m' ∧ _
      unfold fX6_forget_L15_b
      have hn := hC.2.1
      have : i = n := by omega
      subst this
      rw [hC.1, if_neg (nI_nlt (by omega) (by omega))]
      exact ⟨m, rfl, fun _ _ => rfl, hv⟩
  | succ c ih =>
    intro fuel i m hi hf hC hv
    cases fuel with
    | zero => omega
    | succ fuel =>
      show ∃ m', fX6_forget_L15_b kk (fX6_forget_L15 kk fuel) m (nI i) = kk m' ∧ _
      unfold fX6_forget_L15_b
      have hn := hC.2.1
      have hb := inb_nI (show i < 12 by omega) (show 12 < 2 ^ 31 by decide)
      rw [hC.1, if_pos (nI_lt (show i < n by omega) (by omega)), ck_t hb, lt_e, ix_nI (by omega), nI_1]
      have hC1 : CForms (sto m 277 i 0) n F := hC.congr (fun q _ _ => sto_ne (by omega))
      obtain ⟨m1, a1, a2, a3, a4⟩ := forgetA (F := F) (show i < n by omega) (fun m12 => fX6_forget_L15 kk fuel m12 (nI (i + 1))) n 5000 0 (sto m 277 i 0) (by omega) (by omega) hC1 sto_eq
      rw [show nI 0 = (0 : Int32) from rfl] at a1
      rw [a1]
      obtain ⟨m2, b1, b2, b3⟩ := ih fuel (i + 1) m1 (by omega) (by omega) (hC1.congr (fun q _ _ => a2 q (by omega))) (fun o ho => by
        by_cases e : o = i
        · subst e; exact a3
        · rw [a4 o e, sto_nj e]; exact hv o (by omega))
      exact ⟨m2, b1, fun q hq => by rw [b2 q hq, a2 q hq, sto_ne hq], b3⟩
theorem forget_ok {σ : Mem} {n : Nat} {F : Nat → Fm} (hC : CForms σ n F) :
    ∃ σ', fX6_forget σ = some ((), σ') ∧ CMean σ' n F ∧ CThr σ' n F ∧ ∀ q, q ≠ 275 → q ≠ 276 → q ≠ 277 → σ' q = σ q := by
  have hn := hC.2.1
  unfold fX6_forget
  obtain ⟨m1, a1, a2, a3⟩ := fill_ok (q := 276) (N := 4096) (by decide) rfl 0 σ
  rw [a1, cl_s, lt_e]
  have hs : ∀ q, q ≠ 275 → q ≠ 276 → sto m1 275 3 0 q = σ q := fun q h1 h2 => by rw [sto_ne h1, a2 q h2]
  have hC1 : CForms (sto m1 275 3 0) n F := hC.congr (fun q _ _ => hs q (by omega) (by omega))
  obtain ⟨m2, b1, b2, b3⟩ := forgetB (F := F) (fun m6 => some ((), m6)) n 5000 0 _ (by omega) (by omega) hC1 (fun o ho => by omega)
  rw [show nI 0 = (0 : Int32) from rfl] at b1
  rw [b1]
  refine ⟨m2, rfl, ⟨hC1.congr (fun q _ _ => b2 q (by omega)), b3, fun w hw => Or.inl ?_⟩, Or.inl ?_, fun q h1 h2 h3 => by rw [b2 q h3, hs q h1 h2]⟩
  · rw [b2 276 (by decide), sto_ne (by decide)]; exact a3 w hw
  · rw [b2 275 (by decide), sto_eq]
/-- image -/
def gImage (A : Ab) : Int32 × Ab := (nI A.n, (A.n, A.F, A.tc, A.tp, A.lc, A.ln, A.d, A.pc, A.past, some (A.n, A.d), A.rf))
theorem cs_image : CS fX10_image gImage := by
  intro σ A h
  unfold fX10_image
  obtain ⟨s, b1, b2, b3⟩ := become_ok (k := 3) h.now.1 h.now.2 (Or.inl (by decide))
  rw [b1, cl_s, lt_e, sto_eq]
  have hs : ∀ q, 0 < q → q < 3 ∨ 7 ≤ q → sto s 0 10 (s 9 1) q = σ q := fun q h1 h2 => by rw [sto_ne (by omega), b3 q (by omega)]
  have h0 : s 0 = σ 0 := b3 0 (Or.inl (by decide))
  have h9 : s 9 1 = nI A.n := by rw [b3 9 (Or.inr (by decide))]; exact h.mean.1.1
  refine ⟨_, by rw [h9]; rfl, ⟨h.mean.congr (fun q a b => hs q (by omega) (by omega)), h.sg.congr (fun q a b => hs q (by omega) (by omega)), h.thr.congr (fun q a b _ _ => hs q (by omega) (by omega)), h.tape.congr (hs _ (by decide) (by decide)) (hs _ (by decide) (by decide)), h.line.congr (hs _ (by decide) (by decide)) (hs _ (by decide) (by decide)), ⟨h.now.1.congr (fun q a b => hs q (by omega) (by omega)), h.now.2⟩, h.past.congr (by rw [sto_nj (by decide), h0]) (by rw [sto_nj (by decide), h0]) (fun q a b => hs q (by omega) (by omega)), ⟨by rw [sto_eq]; exact h9, Nat.le_refl _, b2.congr (fun q a b => sto_ne (by omega)), h.now.2⟩, fun i hi => by rw [hs 8 (by decide) (by decide)]; exact h.ref i hi⟩, fun k hk => hs k (by omega) (by omega)⟩
/-- back -/
def gBack (A : Ab) : Int32 × Ab := match A.kept with
  | none => bad3 A
  | some (c, d) => (nI c, (c, A.F, A.tc, A.tp, A.lc, A.ln, d, 0, A.past, A.kept, A.rf))
theorem cs_back : CS fX10_back gBack := by
  intro σ A h
  have hk := h.kept
  unfold fX10_back gBack
  revert hk
  cases hkp : A.kept with
  | none =>
    intro hk
    rw [if_pos (show σ 0 10 = -1 from hk)]
    exact cbad3 h
  | some p =>
    obtain ⟨c, d⟩ := p
    rintro ⟨h10, hcn, hd, hdo⟩
    have hn := h.mean.1.2.1
    rw [h10, if_neg (fun z => absurd (nI_pos' (show c < 2 ^ 31 by omega)) (by rw [z]; decide))]
    obtain ⟨s, b1, b2, b3⟩ := become_ok (k := 283) hd hdo (Or.inr (by decide))
    rw [b1, cl_s, lt_e, lt_e]
    have s0 : s 0 = σ 0 := b3 0 (Or.inl (by decide))
    have hs : ∀ q, q ≠ 0 → q ≠ 9 → q < 283 ∨ 287 ≤ q → sto (sto s 9 1 (s 0 10)) 0 13 0 q = σ q := fun q h1 h2 h3 => by rw [sto_ne h1, sto_ne h2, b3 q (by omega)]
    have hC1 : CForms (sto (sto s 9 1 (s 0 10)) 0 13 0) c A.F := by
      refine ⟨by rw [sto_ne (by decide), sto_eq, s0, h10], by omega, fun i hi => ⟨(h.mean.1.2.2 i (by omega)).1.congr (fun q a b => hs q (by omega) (by omega) (by omega)), (h.mean.1.2.2 i (by omega)).2⟩⟩
    obtain ⟨m2, c1, c2, c3, c4⟩ := forget_ok hC1
    rw [c1, cl_s]
    have m0 : ∀ j, j ≠ 13 → m2 0 j = σ 0 j := fun j hj => by rw [c4 0 (by decide) (by decide) (by decide), sto_nj hj, sto_ne (by decide), s0]
    have m13 : m2 0 13 = 0 := by rw [c4 0 (by decide) (by decide) (by decide), sto_eq]
    have hm : ∀ q, q ≠ 0 → q ≠ 9 → q < 275 ∨ 278 ≤ q → q < 283 ∨ 287 ≤ q → m2 q = σ q := fun q h1 h2 h3 h4 => by rw [c4 q (by omega) (by omega) (by omega), hs q h1 h2 h4]
    rw [m0 10 (by decide), h10]
    refine ⟨m2, rfl, ⟨c2, h.sg.congr (fun q a b => hm q (by omega) (by omega) (by omega) (by omega)), c3, h.tape.congr (hm _ (by decide) (by decide) (by decide) (by decide)) (hm _ (by decide) (by decide) (by decide) (by decide)), h.line.congr (hm _ (by decide) (by decide) (by decide) (by decide)) (hm _ (by decide) (by decide) (by decide) (by decide)), ⟨b2.congr (fun q a b => ?_), hdo⟩, ?_, ⟨(m0 10 (by decide)).trans h10, Nat.le_refl _, hd.congr (fun q a b => hm q (by omega) (by omega) (by omega) (by omega)), hdo⟩, fun i hi => by rw [hm 8 (by decide) (by decide) (by decide) (by decide)]; exact h.ref i hi⟩, fun k hk => hm k (by omega) (by omega) (by omega) (by omega)⟩
    · rw [c4 q (by omega) (by omega) (by omega), sto_ne (by omega), sto_ne (by omega)]
    · obtain ⟨p1, p2, p0, p3, p4, p5⟩ := h.past
      exact ⟨m13, Nat.zero_le _, p0, p3, (m0 12 (by decide)).trans p4, fun t ht => absurd ht (Nat.not_lt_zero t)⟩
