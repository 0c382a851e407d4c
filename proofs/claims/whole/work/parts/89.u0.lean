/-! ===== texts: the reference's rules ===== -/
abbrev FrU (c : Nat) (σ σ' : Mem) : Prop := (∀ q, q ≠ 362 → q ≠ 367 → q ≠ 368 → σ' q = σ q) ∧ (∀ j, j ≠ 27 → j ≠ 30 → σ' 362 j = σ 362 j) ∧ (∀ j, j < c → σ' 367 j = σ 367 j) ∧ ∀ j, j < 9 * c → σ' 368 j = σ 368 j
def RRl (σ : Mem) (c r : Nat) (rl : Rl) : Prop := σ 367 c = nI r ∧ ∀ i, i < r → σ 368 (9 * c + 3 * i) = nI (rl i).1 ∧ σ 368 (9 * c + 3 * i + 1) = nI (rl i).2.1 ∧ σ 368 (9 * c + 3 * i + 2) = nI (rl i).2.2
theorem RPat.congr {σ σ' : Mem} {c : Nat} {P : Nat → Nat} (h : RPat σ c P) (hq : σ' 366 = σ 366) : RPat σ' c P := by
  unfold RPat at *
  rw [hq]
  exact h
theorem rrule3 {σ : Mem} {c p : Nat} (hc : c < 12) (h27 : σ 362 27 = nI p) (h30 : σ 362 30 = -1) (hr : σ 367 c = nI 3) : fX11_readsRule σ (nI c) = some ((), sto σ 362 30 (nI p)) := by
  unfold fX11_readsRule
  rw [ck_t (inb_nI hc (by decide)), ix_nI (by omega), hr, if_pos (show nI 3 = 3 from rfl), h27, wrongAt_ok h30, cl_s]
theorem rrule_ok {σ : Mem} {t : Tp} (hT : RTp σ t) (ht : Tok t) {c : Nat} (hc : c < 12) {P : Nat → Nat} (hP : RPat σ c P) {p : Nat} (hp : p < 500) (h27 : σ 362 27 = nI p) (h30 : σ 362 30 = -1) {r : Nat} {rl : Rl} (hr : r < 3) (hR : RRl σ c r rl) :
    ∃ σ', fX11_readsRule σ (nI c) = some ((), σ') ∧ FrU c σ σ' ∧ ((∃ e, ruP P t (p + 1) = .inl e ∧ σ' 362 30 = nI e) ∨ (∃ x, ruP P t (p + 1) = .inr x ∧ σ' 362 30 = -1 ∧ σ' 362 27 = nI x.1 ∧ RRl σ' c (r + 1) (fun i => if i = r then x.2 else rl i))) := by
  obtain ⟨h367, hru⟩ := hR
  have ic := inb_nI hc (show 12 < 2 ^ 31 by decide)
  have hx3 : (9 : Int32) * nI c + 3 * nI r = nI (9 * c + 3 * r) := by rw [show (9 : Int32) = nI 9 from rfl, show (3 : Int32) = nI 3 from rfl, pk_mul, pk_mul, nI_add]
  unfold fX11_readsRule
  rw [ck_t ic, ix_nI (by omega), h367, if_neg (show ¬ nI r = 3 from fun y => absurd ((nI_eq (b := 3) (by omega) (by decide)).mp y) (by omega)), lt_e, h27, nI_1, ck_t ic, lt_e, sto_ne (show 367 ≠ 362 by decide), h367, hx3, show nI (9 * c + 3 * r) + 1 = nI (9 * c + 3 * r + 1) from nI_1 _, show nI (9 * c + 3 * r) + 2 = nI (9 * c + 3 * r + 2) from nI_add _ 2]
  have x0 := inb_nI (show 9 * c + 3 * r < 108 by omega) (show 108 < 2 ^ 31 by decide)
  have x1 := inb_nI (show 9 * c + 3 * r + 1 < 108 by omega) (show 108 < 2 ^ 31 by decide)
  have x2 := inb_nI (show 9 * c + 3 * r + 2 < 108 by omega) (show 108 < 2 ^ 31 by decide)
  simp only [ck_t ic, ck_t x0, ck_t x1, ck_t x2, ix_nI (show 9 * c + 3 * r < 2 ^ 31 by omega), ix_nI (show 9 * c + 3 * r + 1 < 2 ^ 31 by omega), ix_nI (show 9 * c + 3 * r + 2 < 2 ^ 31 by omega)]
  generalize hm2 : sto σ 362 27 (nI (p + 1)) = m2
  have a27 : m2 362 27 = nI (p + 1) := by rw [← hm2, sto_eq]
  have a30 : m2 362 30 = -1 := by rw [← hm2, sto_nj (by decide)]; exact h30
  have af : Fr σ m2 := ⟨fun q hq => by rw [← hm2, sto_ne hq], fun j a b => by rw [← hm2, sto_nj a]⟩
  have aT : RTp m2 t := by unfold RTp; rw [af.2 28 (by decide) (by decide), af.1 373 (by decide)]; exact hT
  have aP : RPat m2 c P := hP.congr (af.1 366 (by decide))
  rw [rletter_ok aT ht aP (by omega) a27 a30, cl_s]
  unfold ruP
  cases hl : lofA t (p + 1) with
  | none =>
    rw [if_neg (show ¬ lyes P none = true from fun z => by cases z), lt_e]
    simp only [lt_e]
    generalize hm : sto (sto m2 362 30 (nI (p + 1))) 368 (9 * c + 3 * r + 1) 0 = m
    have b27 : m 362 27 = nI (p + 1) := by rw [← hm, sto_ne (by decide), sto_nj (by decide)]; exact a27
    have b30 : m 362 30 = nI (p + 1) := by rw [← hm, sto_ne (by decide), sto_eq]
    have bT : RTp m t := ⟨by rw [← hm, sto_ne (by decide), sto_nj (by decide)]; exact aT.1, fun i hi => by rw [← hm, sto_ne (by decide), sto_ne (by decide)]; exact aT.2 i hi⟩
    rw [b27, rat_ok bT ht (by omega), cl_s, b30, if_neg (nI_pos (by omega)), if_neg (nI_pos (by omega))]
    exact ⟨m, rfl, ⟨fun q u v w => by rw [← hm, sto_ne w, sto_ne u]; exact af.1 q u, fun j u v => by rw [← hm, sto_ne (by decide), sto_nj v]; exact af.2 j u v, fun j hj => by rw [← hm, sto_ne (by decide), sto_ne (by decide)]; rw [af.1 367 (by decide)], fun j hj => by rw [← hm, sto_nj (by omega), sto_ne (by decide), af.1 368 (by decide)]⟩, Or.inl ⟨_, rfl, b30⟩⟩
  | some l =>
    by_cases d : 0 < cnt (fp P l) 12
    case neg =>
      simp only [if_neg d]
      rw [if_neg (show ¬ lyes P (some l) = true from fun y => d (of_decide_eq_true y)), lt_e]
      simp only [lt_e]
      generalize hm : sto (sto m2 362 30 (nI (p + 1))) 368 (9 * c + 3 * r + 1) 0 = m
      have b27 : m 362 27 = nI (p + 1) := by rw [← hm, sto_ne (by decide), sto_nj (by decide)]; exact a27
      have b30 : m 362 30 = nI (p + 1) := by rw [← hm, sto_ne (by decide), sto_eq]
      have bT : RTp m t := ⟨by rw [← hm, sto_ne (by decide), sto_nj (by decide)]; exact aT.1, fun i hi => by rw [← hm, sto_ne (by decide), sto_ne (by decide)]; exact aT.2 i hi⟩
      rw [b27, rat_ok bT ht (by omega), cl_s, b30, if_neg (nI_pos (by omega)), if_neg (nI_pos (by omega))]
      exact ⟨m, rfl, ⟨fun q u v w => by rw [← hm, sto_ne w, sto_ne u]; exact af.1 q u, fun j u v => by rw [← hm, sto_ne (by decide), sto_nj v]; exact af.2 j u v, fun j hj => by rw [← hm, sto_ne (by decide), sto_ne (by decide)]; rw [af.1 367 (by decide)], fun j hj => by rw [← hm, sto_nj (by omega), sto_ne (by decide), af.1 368 (by decide)]⟩, Or.inl ⟨_, rfl, b30⟩⟩
    simp only [if_pos d]
    rw [if_pos (show lyes P (some l) = true from decide_eq_true d), lt_e]
    simp only [lt_e]
    rw [show ansO (some l) = nI l from rfl]
    generalize hm : sto (sto m2 362 27 (nI (p + 1 + 1))) 368 (9 * c + 3 * r + 1) (nI l) = m
    have b27 : m 362 27 = nI (p + 1 + 1) := by rw [← hm, sto_ne (by decide), sto_eq]
    have b30 : m 362 30 = -1 := by rw [← hm, sto_ne (by decide), sto_nj (by decide)]; exact a30
    have bf : ∀ q, q ≠ 362 → q ≠ 368 → m q = σ q := fun q u v => by rw [← hm, sto_ne v, sto_ne u]; exact af.1 q u
    have bo : ∀ j, j ≠ 27 → j ≠ 30 → m 362 j = σ 362 j := fun j u v => by rw [← hm, sto_ne (by decide), sto_nj u]; exact af.2 j u v
    have b8 : ∀ j, j ≠ 9 * c + 3 * r + 1 → m 368 j = σ 368 j := fun j u => by rw [← hm, sto_nj u, sto_ne (by decide), af.1 368 (by decide)]
    have b81 : m 368 (9 * c + 3 * r + 1) = nI l := by rw [← hm, sto_eq]
    have bT : RTp m t := by unfold RTp; rw [bo 28 (by decide) (by decide), bf 373 (by decide) (by decide)]; exact hT
    rw [b27, rat_ok bT ht (by omega), cl_s, b30, if_pos (show (-1 : Int32) < 0 by decide)]
    simp only [if_pos (show (-1 : Int32) < 0 by decide)]
    have e60 := bA_eq ht (c := 60) (by decide) (p + 1 + 1)
    have e35 := bA_eq ht (c := 35) (by decide) (p + 1 + 1)
    have e47 := bA_eq ht (c := 47) (by decide) (p + 1 + 1)
    rw [show nI 60 = (60 : Int32) from rfl] at e60
    rw [show nI 35 = (35 : Int32) from rfl] at e35
    rw [show nI 47 = (47 : Int32) from rfl] at e47
    rw [sto_ne (show 362 ≠ 368 by decide), b27, nI_1]
    generalize hs : sto (sto m 368 (9 * c + 3 * r) (bA t (p + 1 + 1))) 362 27 (nI (p + 1 + 1 + 1)) = s
    have s27 : s 362 27 = nI (p + 1 + 2) := by rw [← hs, sto_eq]
    have s30 : s 362 30 = -1 := by rw [← hs, sto_nj (by decide), sto_ne (by decide)]; exact b30
    have sf : ∀ q, q ≠ 362 → q ≠ 368 → s q = σ q := fun q u v => by rw [← hs, sto_ne u, sto_ne v]; exact bf q u v
    have so : ∀ j, j ≠ 27 → j ≠ 30 → s 362 j = σ 362 j := fun j u v => by rw [← hs, sto_nj u, sto_ne (by decide)]; exact bo j u v
    have s8 : ∀ j, j ≠ 9 * c + 3 * r → j ≠ 9 * c + 3 * r + 1 → s 368 j = σ 368 j := fun j u v => by rw [← hs, sto_ne (by decide), sto_nj u]; exact b8 j v
    have s80 : s 368 (9 * c + 3 * r) = bA t (p + 1 + 1) := by rw [← hs, sto_ne (by decide), sto_eq]
    have s81 : s 368 (9 * c + 3 * r + 1) = nI l := by rw [← hs, sto_ne (by decide), sto_nj (by omega)]; exact b81
    have sT : RTp s t := by unfold RTp; rw [so 28 (by decide) (by decide), sf 373 (by decide) (by decide)]; exact hT
    have sP : RPat s c P := hP.congr (sf 366 (by decide) (by decide))
    -- the end of a rule
    have tailF : ∀ (u : Mem) (v : Int32), Fr s u → FrU c σ (sto (sto u 368 (9 * c + 3 * r + 2) v) 367 c (nI (r + 1))) := fun u v hu => ⟨fun q x y z => by rw [sto_ne y, sto_ne z, hu.1 q x]; exact sf q x z, fun j x y => by rw [sto_ne (by decide), sto_ne (by decide), hu.2 j x y]; exact so j x y, fun j hj => by rw [sto_nj (by omega), sto_ne (by decide), hu.1 367 (by decide), sf 367 (by decide) (by decide)], fun j hj => by rw [sto_ne (by decide), sto_nj (by omega), hu.1 368 (by decide)]; exact s8 j (by omega) (by omega)⟩
    have tail7 : ∀ (u : Mem) (v : Int32), Fr s u → sto u 368 (9 * c + 3 * r + 2) v 367 c = nI r := fun u v hu => by rw [sto_ne (by decide), hu.1 367 (by decide), sf 367 (by decide) (by decide)]; exact h367
    have tailR : ∀ (u : Mem) (sg v : Nat), Fr s u → bA t (p + 1 + 1) = nI sg → RRl (sto (sto u 368 (9 * c + 3 * r + 2) (nI v)) 367 c (nI (r + 1))) c (r + 1) (fun i => if i = r then (sg, l, v) else rl i) := by
      intro u sg v hu hb
      refine ⟨sto_eq, fun i hi => ?_⟩
      rw [sto_ne (show 368 ≠ 367 by decide)]
      by_cases e : i = r
      · subst e
        simp only [if_true]
        exact ⟨by rw [sto_nj (by omega), hu.1 368 (by decide), s80, hb], by rw [sto_nj (by omega), hu.1 368 (by decide)]; exact s81, sto_eq⟩
      · simp only [e, if_false]
        have := hru i (by omega)
        exact ⟨by rw [sto_nj (by omega), hu.1 368 (by decide), s8 _ (by omega) (by omega)]; exact this.1, by rw [sto_nj (by omega), hu.1 368 (by decide), s8 _ (by omega) (by omega)]; exact this.2.1, by rw [sto_nj (by omega), hu.1 368 (by decide), s8 _ (by omega) (by omega)]; exact this.2.2⟩
    have rfr : ∀ j v, j = 27 ∨ j = 30 → Fr s (sto s 362 j v) := fun j v hj => ⟨fun q hq => sto_ne hq, fun i a b => sto_nj (by omega)⟩
    by_cases z60 : isC t 60 (p + 1 + 1) = true
    · have b60 := e60.mpr z60
      rw [if_pos z60, if_neg (show ¬ bA t (p + 1 + 1) = 35 by rw [b60]; decide), if_neg (show ¬ bA t (p + 1 + 1) = 47 by rw [b60]; decide), if_pos b60, if_pos b60, rletter_ok sT ht sP (by omega) s27 s30, cl_s]
      cases hj : lofA t (p + 1 + 2) with
      | none =>
        rw [if_neg (show ¬ lyes P none = true from fun z => by cases z)]
        simp only
        rw [tail7 _ _ (rfr 30 _ (Or.inr rfl)), nI_1]
        exact ⟨_, rfl, tailF _ _ (rfr 30 _ (Or.inr rfl)), Or.inl ⟨_, rfl, by rw [sto_ne (by decide), sto_ne (by decide), sto_eq]⟩⟩
      | some j =>
        by_cases y : 0 < cnt (fp P j) 12
        · simp only [if_pos y]
          rw [if_pos (show lyes P (some j) = true from decide_eq_true y)]
          simp only
          rw [tail7 _ _ (rfr 27 _ (Or.inl rfl)), nI_1]
          exact ⟨_, rfl, tailF _ _ (rfr 27 _ (Or.inl rfl)), Or.inr ⟨_, rfl, by rw [sto_ne (by decide), sto_ne (by decide), sto_nj (by decide)]; exact s30, by rw [sto_ne (by decide), sto_ne (by decide), sto_eq], tailR _ 60 j (rfr 27 _ (Or.inl rfl)) b60⟩⟩
        · simp only [if_neg y]
          rw [if_neg (show ¬ lyes P (some j) = true from fun w => y (of_decide_eq_true w))]
          simp only
          rw [tail7 _ _ (rfr 30 _ (Or.inr rfl)), nI_1]
          exact ⟨_, rfl, tailF _ _ (rfr 30 _ (Or.inr rfl)), Or.inl ⟨_, rfl, by rw [sto_ne (by decide), sto_ne (by decide), sto_eq]⟩⟩
    have n60 : ¬ bA t (p + 1 + 1) = 60 := fun y => z60 (e60.mp y)
    rw [if_neg z60, if_neg n60, if_neg n60]
    by_cases z35 : isC t 35 (p + 1 + 1) = true
    · have b35 := e35.mpr z35
      rw [if_pos z35, if_pos b35, if_pos b35]
      obtain ⟨u, u1, u2, u3, u4⟩ := rnumT_ok sT ht (p := p + 1 + 2) (by omega) s27 s30 (a := 0) (b := 255) (by decide) (by decide)
      rw [show nI 0 = (0 : Int32) from rfl, show nI 255 = (255 : Int32) from rfl] at u1
      rw [u1, cl_s, tail7 _ _ u2, nI_1]
      have hz : (0 ≤ dvl t (p + 1 + 2) (spn (isBt t 48 57) (p + 1 + 2) 3) ∧ dvl t (p + 1 + 2) (spn (isBt t 48 57) (p + 1 + 2) 3) ≤ 255) ↔ dvl t (p + 1 + 2) (spn (isBt t 48 57) (p + 1 + 2) 3) ≤ 255 := by simp
      rw [hz] at u3 u4
      refine ⟨_, rfl, tailF _ _ u2, ?_⟩
      by_cases y : spn (isBt t 48 57) (p + 1 + 2) 3 = 0 ∨ ¬ dvl t (p + 1 + 2) (spn (isBt t 48 57) (p + 1 + 2) 3) ≤ 255
      · rw [if_pos y]
        exact Or.inl ⟨_, rfl, by rw [sto_ne (by decide), sto_ne (by decide)]; exact u3 y⟩
      · rw [if_neg y]
        exact Or.inr ⟨_, rfl, by rw [sto_ne (by decide), sto_ne (by decide)]; exact (u4 y).1, by rw [sto_ne (by decide), sto_ne (by decide)]; exact (u4 y).2, tailR _ 35 _ u2 b35⟩
    have n35 : ¬ bA t (p + 1 + 1) = 35 := fun y => z35 (e35.mp y)
    rw [if_neg z35, if_neg n35, if_neg n35]
    by_cases z47 : isC t 47 (p + 1 + 1) = true
    · have b47 := e47.mpr z47
      rw [if_pos z47, if_pos b47]
      obtain ⟨u, u1, u2, u3, u4⟩ := rnumT_ok sT ht (p := p + 1 + 2) (by omega) s27 s30 (a := 2) (b := 9) (by decide) (by decide)
      rw [show nI 2 = (2 : Int32) from rfl, show nI 9 = (9 : Int32) from rfl] at u1
      rw [u1, cl_s, tail7 _ _ u2, nI_1]
      refine ⟨_, rfl, tailF _ _ u2, ?_⟩
      by_cases y : spn (isBt t 48 57) (p + 1 + 2) 3 = 0 ∨ ¬ (2 ≤ dvl t (p + 1 + 2) (spn (isBt t 48 57) (p + 1 + 2) 3) ∧ dvl t (p + 1 + 2) (spn (isBt t 48 57) (p + 1 + 2) 3) ≤ 9)
      · rw [if_pos y]
        exact Or.inl ⟨_, rfl, by rw [sto_ne (by decide), sto_ne (by decide)]; exact u3 y⟩
      · rw [if_neg y]
        exact Or.inr ⟨_, rfl, by rw [sto_ne (by decide), sto_ne (by decide)]; exact (u4 y).1, by rw [sto_ne (by decide), sto_ne (by decide)]; exact (u4 y).2, tailR _ 47 _ u2 b47⟩
    rw [if_neg z47, if_neg (fun y => z47 (e47.mp y)), wrongAt_ok b30, cl_s, sto_eq, if_neg (nI_pos (by omega))]
    exact ⟨_, rfl, ⟨fun q x y z => by rw [sto_ne x]; exact bf q x z, fun j x y => by rw [sto_nj y]; exact bo j x y, fun j hj => by rw [sto_ne (by decide), bf 367 (by decide) (by decide)], fun j hj => by rw [sto_ne (by decide)]; exact b8 j (by omega)⟩, Or.inl ⟨_, rfl, sto_eq⟩⟩
