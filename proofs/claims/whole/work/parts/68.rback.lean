/-! ===== the reference's new forms, image, back ===== -/
theorem fixed_loop {σ : Mem} {i : Nat} {pt : Nat → Nat} (h : RPat σ i pt) (kk : Mem → Int32 → Option (Int32 × Mem)) :
    ∀ (c fuel b : Nat), b + c = 12 → c < fuel → fX11_fixedIn_L4 kk (nI i) fuel σ (mkS (fun b => pt b == 48 || pt b == 49) b) (nI b) = kk σ (mkS (fun b => pt b == 48 || pt b == 49) 12) := by
  intro c
  induction c with
  | zero =>
    intro fuel b hb hf
    cases fuel with
    | zero => omega
    | succ fuel =>
      show fX11_fixedIn_L4_b kk (nI i) (fX11_fixedIn_L4 kk (nI i) fuel) σ _ (nI b) = _
      unfold fX11_fixedIn_L4_b
      have : b = 12 := by omega
      subst this
      rw [if_neg (by decide)]
  | succ c ih =>
    intro fuel b hb hf
    cases fuel with
    | zero => omega
    | succ fuel =>
      show fX11_fixedIn_L4_b kk (nI i) (fX11_fixedIn_L4 kk (nI i) fuel) σ _ (nI b) = _
      unfold fX11_fixedIn_L4_b
      have hp := (h.2 b (by omega)).2
      have := ih fuel (b + 1) (by omega) (by omega)
      rw [mkS] at this
      rw [if_pos (show nI b < 12 from nI_lt (b := 12) (by omega) (by decide)), signAt_ok h (by omega), cl_s, lt_e, lt_e]
      simp only [lt_e, nI_1]
      by_cases e : pt b = 48
      · rw [if_pos (by rw [e]; rfl)]
        rw [if_pos (by simp [e])] at this
        exact this
      · rw [if_neg (show ¬ nI (pt b) = 48 from fun z => e ((nI_eq (b := 48) (by omega) (by decide)).mp z)), signAt_ok h (by omega), cl_s]
        by_cases e2 : pt b = 49
        · rw [if_pos (by rw [e2]; rfl)]
          rw [if_pos (by simp [e2])] at this
          exact this
        · rw [if_neg (show ¬ nI (pt b) = 49 from fun z => e2 ((nI_eq (b := 49) (by omega) (by decide)).mp z))]
          rw [if_neg (by simp [e, e2])] at this
          exact this
theorem ones_loop {σ : Mem} {i : Nat} {pt : Nat → Nat} (h : RPat σ i pt) (kk : Mem → Int32 → Option (Int32 × Mem)) :
    ∀ (c fuel b : Nat), b + c = 12 → c < fuel → fX11_onesIn_L4 kk (nI i) fuel σ (mkS (fun b => pt b == 49) b) (nI b) = kk σ (mkS (fun b => pt b == 49) 12) := by
  intro c
  induction c with
  | zero =>
    intro fuel b hb hf
    cases fuel with
    | zero => omega
    | succ fuel =>
      show fX11_onesIn_L4_b kk (nI i) (fX11_onesIn_L4 kk (nI i) fuel) σ _ (nI b) = _
      unfold fX11_onesIn_L4_b
      have : b = 12 := by omega
      subst this
      rw [if_neg (by decide)]
  | succ c ih =>
    intro fuel b hb hf
    cases fuel with
    | zero => omega
    | succ fuel =>
      show fX11_onesIn_L4_b kk (nI i) (fX11_onesIn_L4 kk (nI i) fuel) σ _ (nI b) = _
      unfold fX11_onesIn_L4_b
      have hp := (h.2 b (by omega)).2
      have := ih fuel (b + 1) (by omega) (by omega)
      rw [mkS] at this
      rw [if_pos (show nI b < 12 from nI_lt (b := 12) (by omega) (by decide)), signAt_ok h (by omega), cl_s, lt_e]
      simp only [lt_e, nI_1]
      by_cases e2 : pt b = 49
      · rw [if_pos (by rw [e2]; rfl)]
        rw [if_pos (by simp [e2])] at this
        exact this
      · rw [if_neg (show ¬ nI (pt b) = 49 from fun z => e2 ((nI_eq (b := 49) (by omega) (by decide)).mp z))]
        rw [if_neg (by simp [e2])] at this
        exact this
theorem fixedIn_ok {σ : Mem} {i : Nat} {f : Fm} (h : RPat σ i (fpt f)) : fX11_fixedIn σ (nI i) = some (mskP f, σ) :=
  fixed_loop h (fun m7 x8 => some (x8, m7)) 12 5000 0 (by omega) (by omega)
theorem onesIn_ok {σ : Mem} {i : Nat} {f : Fm} (h : RPat σ i (fpt f)) : fX11_onesIn σ (nI i) = some (valP f, σ) :=
  ones_loop h (fun m7 x8 => some (x8, m7)) 12 5000 0 (by omega) (by omega)
theorem RRaw.pat {σ : Mem} {i : Nat} {f : Fm} (h : RRaw σ 0 i f) (hf : Fok f) (hi : i < 12) : RPat σ i (fpt f) := ⟨hi, fun b hb => ⟨h.1 b hb, hf.2.1 b hb⟩⟩
theorem newF_loop {n : Nat} {F : Nat → Fm} (hn : n ≤ 12) (hF : ∀ i, i < n → Fok (F i)) (kk : Mem → Option (Unit × Mem)) :
    ∀ (c fuel i : Nat) (m : Mem), i + c = n → c < fuel → m 362 8 = nI n → (∀ j, j < n → RRaw m 0 j (F j)) → (∀ j, j < i → m 369 j = mskP (F j) ∧ m 370 j = valP (F j)) →
      ∃ m', fX11_newForms_L7 kk fuel m (nI i) = kk m' ∧ (∀ q, q ≠ 369 → q ≠ 370 → m' q = m q) ∧ ∀ j, j < n → m' 369 j = mskP (F j) ∧ m' 370 j = valP (F j) := by
  intro c
  induction c with
  | zero =>
    intro fuel i m hi hf h8 hR hv
    cases fuel with
    | zero => omega
    | succ fuel =>
      show ∃ m', fX11_newForms_L7_b kk (fX11_newForms_L7 kk fuel) m (nI i) = kk m' ∧ _
      unfold fX11_newForms_L7_b
      have : i = n := by omega
      subst this
      rw [h8, if_neg (nI_nlt (by omega) (by omega))]
      exact ⟨m, rfl, fun _ _ _ => rfl, hv⟩
  | succ c ih =>
    intro fuel i m hi hf h8 hR hv
    cases fuel with
    | zero => omega
    | succ fuel =>
      show ∃ m', fX11_newForms_L7_b kk (fX11_newForms_L7 kk fuel) m (nI i) = kk m' ∧ _
      unfold fX11_newForms_L7_b
      have hb := inb_nI (show i < 12 by omega) (show 12 < 2 ^ 31 by decide)
      have hin : i < n := by omega
      have hR1 : RRaw (sto m 369 i (mskP (F i))) 0 i (F i) := (hR i hin).congr (fun q _ _ => sto_ne (by omega))
      rw [h8, if_pos (nI_lt hin (by omega)), fixedIn_ok ((hR i hin).pat (hF i hin) (by omega)), cl_s, ck_t hb, lt_e, ix_nI (by omega), onesIn_ok (hR1.pat (hF i hin) (by omega)), cl_s, ck_t hb, lt_e, nI_1]
      have hs : ∀ q, q ≠ 369 → q ≠ 370 → sto (sto m 369 i (mskP (F i))) 370 i (valP (F i)) q = m q := fun q h1 h2 => by rw [sto_ne h2, sto_ne h1]
      obtain ⟨m', a1, a2, a3⟩ := ih fuel (i + 1) (sto (sto m 369 i (mskP (F i))) 370 i (valP (F i))) (by omega) (by omega) (by rw [hs 362 (by decide) (by decide)]; exact h8) (fun j hj => (hR j hj).congr (fun q _ _ => hs q (by omega) (by omega))) (fun j hj => by
        by_cases e : j = i
        · subst e
          exact ⟨by rw [sto_ne (by decide), sto_eq], sto_eq⟩
        · have := hv j (by omega)
          exact ⟨by rw [sto_ne (by decide), sto_nj e]; exact this.1, by rw [sto_nj e, sto_ne (by decide)]; exact this.2⟩)
      exact ⟨m', a1, fun q h1 h2 => by rw [a2 q h1 h2, hs q h1 h2], a3⟩
theorem newForms_ok {σ : Mem} {n : Nat} {F : Nat → Fm} (hn : n ≤ 12) (hF : ∀ i, i < n → Fok (F i)) (hR : ∀ j, j < n → RRaw σ 0 j (F j)) :
    ∃ σ', fX11_newForms σ (nI n) = some ((), σ') ∧ RForms σ' n F ∧ σ' 362 11 = 0 ∧ σ' 362 18 = 0 ∧ (∀ j, j ≠ 8 → j ≠ 11 → j ≠ 18 → σ' 362 j = σ 362 j) ∧ ∀ q, q ≠ 362 → q ≠ 369 → q ≠ 370 → σ' q = σ q := by
  unfold fX11_newForms
  rw [lt_e]
  obtain ⟨m', a1, a2, a3⟩ := newF_loop hn hF (fun (m5 : Mem) =>
      lt (sto m5 362 11 (0 : Int32)) <| fun m6 =>
      lt (sto m6 362 18 (0 : Int32)) <| fun m7 =>
      some ((), m7)) n 5000 0 (sto σ 362 8 (nI n)) (by omega) (by omega) sto_eq (fun j hj => (hR j hj).congr (fun q _ _ => sto_ne (by omega))) (fun j hj => by omega)
  rw [show nI 0 = (0 : Int32) from rfl] at a1
  rw [a1, lt_e, lt_e]
  have hs : ∀ q, q ≠ 362 → sto (sto m' 362 11 0) 362 18 0 q = m' q := fun q h1 => by rw [sto_ne h1, sto_ne h1]
  have hs2 : ∀ q, q ≠ 362 → q ≠ 369 → q ≠ 370 → sto (sto m' 362 11 0) 362 18 0 q = σ q := fun q h1 h2 h3 => by rw [hs q h1, a2 q h2 h3, sto_ne h1]
  refine ⟨_, rfl, ⟨?_, hn, fun i hi => ⟨?_, hF i hi⟩⟩, by rw [sto_nj (by decide), sto_eq], sto_eq, fun j h1 h2 h3 => ?_, hs2⟩
  · rw [sto_nj (by decide), sto_nj (by decide), a2 362 (by decide) (by decide), sto_eq]
  · have hr : RRaw (sto (sto m' 362 11 0) 362 18 0) 0 i (F i) := (hR i hi).congr (fun q _ _ => hs2 q (by omega) (by omega) (by omega))
    refine ⟨hr.pat (hF i hi) (by omega), hr.2.1, hr.2.2.1, ⟨?_, ?_⟩, hr.2.2.2⟩
    · rw [hs 369 (by decide)]; exact (a3 i hi).1
    · rw [hs 370 (by decide)]; exact (a3 i hi).2
  · rw [sto_nj h3, sto_nj h2, a2 362 (by decide) (by decide), sto_nj h1]
theorem move_loop {p q N : Nat} (hN : N < 5000) (hp : al p = N) (hq : al q = N) (hpq : p ≠ q) (kk : Mem → Option (Unit × Mem)) :
    ∀ (r fuel i : Nat) (m : Mem), i + r = N → r < fuel →
      ∃ m', fX11_move_L2 kk p q fuel m (nI i) = kk m' ∧ (∀ x, x ≠ q → m' x = m x) ∧ (∀ j, i ≤ j → j < N → m' q j = m p j) ∧ ∀ j, j < i → m' q j = m q j := by
  intro r
  induction r with
  | zero =>
    intro fuel i m hi hf
    cases fuel with
    | zero => omega
    | succ fuel =>
      show ∃ m', fX11_move_L2_b kk p q (fX11_move_L2 kk p q fuel) m (nI i) = kk m' ∧ _
      unfold fX11_move_L2_b
      have : i = N := by omega
      subst this
      rw [hp, if_neg (show ¬ nI i < Int32.ofNat i from nI_nlt (Nat.le_refl _) (by omega))]
      exact ⟨m, rfl, fun _ _ => rfl, fun j a b => by omega, fun _ _ => rfl⟩
  | succ r ih =>
    intro fuel i m hi hf
    cases fuel with
    | zero => omega
    | succ fuel =>
      show ∃ m', fX11_move_L2_b kk p q (fX11_move_L2 kk p q fuel) m (nI i) = kk m' ∧ _
      unfold fX11_move_L2_b
      rw [hp, hq, if_pos (show nI i < Int32.ofNat N from nI_lt (by omega) (by omega)), ck_t (inb_nI (show i < N by omega) (by omega)), ck_t (inb_nI (show i < N by omega) (by omega)), lt_e, ix_nI (by omega), nI_1]
      obtain ⟨m', a1, a2, a3, a4⟩ := ih fuel (i + 1) (sto m q i (m p i)) (by omega) (by omega)
      refine ⟨m', a1, fun x hx => by rw [a2 x hx, sto_ne hx], fun j h1 h2 => ?_, fun j hj => ?_⟩
      · by_cases e : j = i
        · subst e
          rw [a4 _ (by omega), sto_eq]
        · rw [a3 j (by omega) h2, sto_ne hpq]
      · rw [a4 j (by omega), sto_nj (by omega)]
theorem move_ok {p q N : Nat} (hN : N < 5000) (hp : al p = N) (hq : al q = N) (hpq : p ≠ q) (m : Mem) :
    ∃ m', fX11_move m p q = some ((), m') ∧ (∀ x, x ≠ q → m' x = m x) ∧ ∀ j, j < N → m' q j = m p j := by
  obtain ⟨m', a1, a2, a3, a4⟩ := move_loop hN hp hq hpq (fun m6 => some ((), m6)) N 5000 0 m (by omega) (by omega)
  exact ⟨m', a1, a2, fun j hj => a3 j (by omega) hj⟩
theorem RRaw.mv {σ σ' : Mem} {o o' i : Nat} {f : Fm} (h : RRaw σ o i f) (hi : i < 12) (hf : Fok f) (h0 : ∀ j, j < 12 → σ' (364 + o') j = σ (364 + o) j) (h1 : ∀ j, j < 36 → σ' (365 + o') j = σ (365 + o) j) (h2 : ∀ j, j < 144 → σ' (366 + o') j = σ (366 + o) j) (h3 : ∀ j, j < 12 → σ' (367 + o') j = σ (367 + o) j) (h4 : ∀ j, j < 108 → σ' (368 + o') j = σ (368 + o) j) : RRaw σ' o' i f := by
  have h3' := hf.2.2.2.1
  refine ⟨fun b hb => by rw [h2 _ (by omega)]; exact h.1 b hb, by rw [h0 _ hi]; exact h.2.1, fun c hc => by rw [h1 _ (by omega)]; exact h.2.2.1 c hc, by rw [h3 _ hi]; exact h.2.2.2.1, fun r hr => ?_⟩
  rw [h4 _ (by omega), h4 _ (by omega), h4 _ (by omega)]
  exact h.2.2.2.2 r hr
theorem RForm.raw {σ : Mem} {i : Nat} {f : Fm} (h : RForm σ i f) : RRaw σ 0 i f := ⟨fun b hb => (h.1.2 b hb).1, h.2.1, h.2.2.1, h.2.2.2.2⟩
theorem rs_image : RS fX11_image gImage := by
  intro σ A h
  unfold fX11_image
  obtain ⟨m1, a1, b1, c1⟩ := move_ok (p := 375) (q := 377) (N := 73) (by decide) rfl rfl (by decide) σ
  obtain ⟨m2, a2, b2, c2⟩ := move_ok (p := 364) (q := 378) (N := 12) (by decide) rfl rfl (by decide) m1
  obtain ⟨m3, a3, b3, c3⟩ := move_ok (p := 365) (q := 379) (N := 36) (by decide) rfl rfl (by decide) m2
  obtain ⟨m4, a4, b4, c4⟩ := move_ok (p := 366) (q := 380) (N := 144) (by decide) rfl rfl (by decide) m3
  obtain ⟨m5, a5, b5, c5⟩ := move_ok (p := 367) (q := 381) (N := 12) (by decide) rfl rfl (by decide) m4
  obtain ⟨m6, a6, b6, c6⟩ := move_ok (p := 368) (q := 382) (N := 108) (by decide) rfl rfl (by decide) m5
  rw [a1, cl_s, a2, cl_s, a3, cl_s, a4, cl_s, a5, cl_s, a6, cl_s, lt_e, lt_e]
  have k6 : ∀ q, q < 377 ∨ 382 < q → m6 q = σ q := fun q hq => by rw [b6 q (by omega), b5 q (by omega), b4 q (by omega), b3 q (by omega), b2 q (by omega), b1 q (by omega)]
  have s0 : ∀ q, q ≠ 362 → sto (sto m6 362 25 (m6 362 8)) 362 26 1 q = m6 q := fun q hq => by rw [sto_ne hq, sto_ne hq]
  have s1 : ∀ q, q ≠ 362 → q < 377 ∨ 382 < q → sto (sto m6 362 25 (m6 362 8)) 362 26 1 q = σ q := fun q h1 h2 => by rw [s0 q h1, k6 q h2]
  have o1 : ∀ j, j ≠ 25 → j ≠ 26 → sto (sto m6 362 25 (m6 362 8)) 362 26 1 362 j = σ 362 j := fun j h1 h2 => by rw [sto_nj h2, sto_nj h1, k6 362 (by decide)]
  have h8 : m6 362 8 = nI A.n := by rw [k6 362 (by decide)]; exact h.forms.1
  have hn := h.forms.2.1
  refine ⟨_, by rw [o1 8 (by decide) (by decide), h.forms.1]; rfl, ⟨h.forms.congr (o1 _ (by decide) (by decide)) (fun q a b => s1 q (by omega) (by omega)), h.lk.congr (o1 _ (by decide) (by decide)) (s1 _ (by decide) (by decide)) (s1 _ (by decide) (by decide)), h.tape.congr (o1 _ (by decide) (by decide)) (s1 _ (by decide) (by decide)), h.line.congr (o1 _ (by decide) (by decide)) (s1 _ (by decide) (by decide)), ⟨h.now.1.congr (s1 _ (by decide) (by decide)), h.now.2⟩, h.past.congr (o1 _ (by decide) (by decide)) (s1 _ (by decide) (by decide)), ⟨sto_eq, by rw [sto_nj (by decide), sto_eq]; exact h8, Nat.le_refl _, ?_, h.now.2, fun i hi => ?_⟩, fun i hi => by rw [s1 363 (by decide) (by decide)]; exact h.ref i hi⟩, fun k hk => s1 k (by omega) (by omega)⟩
  · refine h.now.1.mv h.now.2 (fun j hj => ?_)
    rw [s0 377 (by decide), b6 377 (by decide), b5 377 (by decide), b4 377 (by decide), b3 377 (by decide), b2 377 (by decide), Nat.zero_add, c1 j hj]
  · have hi2 : i < A.n := hi
    refine (h.forms.2.2 i hi2).1.raw.mv (by omega) (h.forms.2.2 i hi2).2 (fun j hj => ?_) (fun j hj => ?_) (fun j hj => ?_) (fun j hj => ?_) (fun j hj => ?_)
    · rw [s0 _ (by decide), b6 _ (by decide), b5 _ (by decide), b4 _ (by decide), b3 _ (by decide), c2 j hj, b1 _ (by decide)]
    · rw [s0 _ (by decide), b6 _ (by decide), b5 _ (by decide), b4 _ (by decide), c3 j hj, b2 _ (by decide), b1 _ (by decide)]
    · rw [s0 _ (by decide), b6 _ (by decide), b5 _ (by decide), c4 j hj, b3 _ (by decide), b2 _ (by decide), b1 _ (by decide)]
    · rw [s0 _ (by decide), b6 _ (by decide), c5 j hj, b4 _ (by decide), b3 _ (by decide), b2 _ (by decide), b1 _ (by decide)]
    · rw [s0 _ (by decide), c6 j hj, b5 _ (by decide), b4 _ (by decide), b3 _ (by decide), b2 _ (by decide), b1 _ (by decide)]
theorem rs_back : RS fX11_back gBack := by
  intro σ A h
  have hk := h.kept
  unfold fX11_back gBack
  revert hk
  cases hkp : A.kept with
  | none =>
    intro hk
    rw [if_pos (show σ 362 26 = 0 from hk)]
    exact rbad3 h
  | some p =>
    obtain ⟨c, d⟩ := p
    rintro ⟨h26, h25, hcn, hd, hdo, hraw⟩
    have hn := h.forms.2.1
    rw [h26, if_neg (by decide)]
    obtain ⟨m1, a1, b1, c1⟩ := move_ok (p := 377) (q := 375) (N := 73) (by decide) rfl rfl (by decide) σ
    obtain ⟨m2, a2, b2, c2⟩ := move_ok (p := 378) (q := 364) (N := 12) (by decide) rfl rfl (by decide) m1
    obtain ⟨m3, a3, b3, c3⟩ := move_ok (p := 379) (q := 365) (N := 36) (by decide) rfl rfl (by decide) m2
    obtain ⟨m4, a4, b4, c4⟩ := move_ok (p := 380) (q := 366) (N := 144) (by decide) rfl rfl (by decide) m3
    obtain ⟨m5, a5, b5, c5⟩ := move_ok (p := 381) (q := 367) (N := 12) (by decide) rfl rfl (by decide) m4
    obtain ⟨m6, a6, b6, c6⟩ := move_ok (p := 382) (q := 368) (N := 108) (by decide) rfl rfl (by decide) m5
    rw [a1, cl_s, a2, cl_s, a3, cl_s, a4, cl_s, a5, cl_s, a6, cl_s]
    have k6 : ∀ q, q ≠ 375 → q < 364 ∨ 368 < q → m6 q = σ q := fun q h1 hq => by rw [b6 q (by omega), b5 q (by omega), b4 q (by omega), b3 q (by omega), b2 q (by omega), b1 q (by omega)]
    have hR : ∀ i, i < c → RRaw m6 0 i (A.F i) := fun i hi => by
      refine (hraw i hi).mv (by omega) (h.forms.2.2 i (by omega)).2 (fun j hj => ?_) (fun j hj => ?_) (fun j hj => ?_) (fun j hj => ?_) (fun j hj => ?_)
      · rw [b6 _ (by decide), b5 _ (by decide), b4 _ (by decide), b3 _ (by decide), c2 j hj, b1 _ (by decide)]
      · rw [b6 _ (by decide), b5 _ (by decide), b4 _ (by decide), c3 j hj, b2 _ (by decide), b1 _ (by decide)]
      · rw [b6 _ (by decide), b5 _ (by decide), c4 j hj, b3 _ (by decide), b2 _ (by decide), b1 _ (by decide)]
      · rw [b6 _ (by decide), c5 j hj, b4 _ (by decide), b3 _ (by decide), b2 _ (by decide), b1 _ (by decide)]
      · rw [c6 j hj, b5 _ (by decide), b4 _ (by decide), b3 _ (by decide), b2 _ (by decide), b1 _ (by decide)]
    obtain ⟨s, d1, d2, d3, d4, d5, d6⟩ := newForms_ok (F := A.F) (show c ≤ 12 by omega) (fun i hi => (h.forms.2.2 i (by omega)).2) hR
    rw [k6 362 (by decide) (by decide), h25, d1, cl_s, d2.1]
    have hs : ∀ q, q ≠ 362 → q ≠ 375 → q < 364 ∨ 370 < q → s q = σ q := fun q h1 h2 h3 => by rw [d6 q h1 (by omega) (by omega), k6 q h2 (by omega)]
    have ho : ∀ j, j ≠ 8 → j ≠ 11 → j ≠ 18 → s 362 j = σ 362 j := fun j h1 h2 h3 => by rw [d5 j h1 h2 h3, k6 362 (by decide) (by decide)]
    refine ⟨s, rfl, ⟨d2, Or.inl d3, h.tape.congr (ho _ (by decide) (by decide) (by decide)) (hs _ (by decide) (by decide) (by decide)), h.line.congr (ho _ (by decide) (by decide) (by decide)) (hs _ (by decide) (by decide) (by decide)), ⟨hd.mv hdo (fun j hj => ?_), hdo⟩, ⟨d4, Nat.zero_le _, fun t ht => absurd ht (Nat.not_lt_zero t)⟩, ⟨(ho _ (by decide) (by decide) (by decide)).trans h26, (ho _ (by decide) (by decide) (by decide)).trans h25, Nat.le_refl _, hd.congr (hs _ (by decide) (by decide) (by decide)), hdo, fun i hi => (hraw i hi).congr (fun q a b => hs q (by omega) (by omega) (by omega))⟩, fun i hi => by rw [hs 363 (by decide) (by decide) (by decide)]; exact h.ref i hi⟩, fun k hk => hs k (by omega) (by omega) (by omega)⟩
    rw [d6 375 (by decide) (by decide) (by decide), b6 375 (by decide), b5 375 (by decide), b4 375 (by decide), b3 375 (by decide), b2 375 (by decide), Nat.zero_add, c1 j hj]
