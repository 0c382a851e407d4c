/-! ===== the reference looks at all words ===== -/
def RForms (σ : Mem) (n : Nat) (F : Nat → Fm) : Prop := σ 362 8 = nI n ∧ n ≤ 12 ∧ ∀ i, i < n → RForm σ i (F i) ∧ Fok (F i)
theorem RForm.congr {σ σ' : Mem} {i : Nat} {f : Fm} (h : RForm σ i f) (hq : ∀ q, 364 ≤ q → q < 371 → σ' q = σ q) : RForm σ' i f := by
  unfold RForm RPat at *
  rw [hq 364 (by omega) (by omega), hq 365 (by omega) (by omega), hq 366 (by omega) (by omega), hq 367 (by omega) (by omega), hq 368 (by omega) (by omega), hq 369 (by omega) (by omega), hq 370 (by omega) (by omega)]
  exact h
theorem RForms.congr {σ σ' : Mem} {n : Nat} {F : Nat → Fm} (h : RForms σ n F) (h0 : σ' 362 8 = σ 362 8) (hq : ∀ q, 364 ≤ q → q < 371 → σ' q = σ q) : RForms σ' n F :=
  ⟨h0.trans h.1, h.2.1, fun i hi => ⟨(h.2.2 i hi).1.congr hq, (h.2.2 i hi).2⟩⟩
def mnR (F : Nat → Fm) (n : Nat) (w : Int32) : Int32 := if mnN F n w = 12 then -1 else if mnN F n w = 13 then -2 else nI (mnN F n w)
theorem ovr_asym {f g : Fm} (h : ovrP f g = true) : ovrP g f = false := by
  unfold ovrP at *
  simp only [Bool.and_eq_true, decide_eq_true_eq] at h
  cases h2 : (decide (mskP g &&& mskP f = mskP f) && (decide (mskP g ≠ mskP f) && decide (valP g &&& mskP f = valP f))) with
  | false => rfl
  | true =>
    simp only [Bool.and_eq_true, decide_eq_true_eq] at h2
    have e := h2.1
    rw [Int32.and_comm, h.1] at e
    exact absurd e h2.2.1
theorem bst_uniq {F : Nat → Fm} {n : Nat} {w : Int32} {i j : Nat} (hi : bst F n w i = true) (hj : bst F n w j = true) (hin : i < n) (hjn : j < n) : i = j := by
  unfold bst at hi hj
  rw [Bool.and_eq_true, List.all_eq_true] at hi hj
  have a := hi.2 j (List.mem_range.mpr hjn)
  have b := hj.2 i (List.mem_range.mpr hin)
  rw [hj.1] at a
  rw [hi.1] at b
  simp only [Bool.not_true, Bool.false_or, Bool.or_eq_true, decide_eq_true_eq] at a b
  rcases a with a | a
  · exact a.symm
  · rcases b with b | b
    · exact b
    · rw [ovr_asym a] at b; cases b
def OV (F : Nat → Fm) (n i : Nat) : Int32 := mkS (fun o => !decide (o = i) && ovrP (F i) (F o)) n
theorem has_ok (σ : Mem) (x : Int32) {k : Nat} (hk : k < 32) : fX11_has σ x (nI k) = some (if bt x k = true then 1 else 0, σ) := by
  unfold fX11_has
  rw [ushr1 hk]
  cases bt x k <;> simp
theorem over_loop {σ : Mem} {n : Nat} {F : Nat → Fm} (hR : RForms σ n F) {i : Nat} (hi : i < n) (kk : Mem → Option (Unit × Mem)) :
    ∀ (c fuel o : Nat) (m : Mem), o + c = n → c < fuel → (∀ q, q ≠ 385 → m q = σ q) → m 385 i = mkS (fun o => !decide (o = i) && ovrP (F i) (F o)) o →
      ∃ m', fX11_looks_L33 kk (nI i) fuel m (nI o) = kk m' ∧ (∀ q, q ≠ 385 → m' q = σ q) ∧ m' 385 i = OV F n i ∧ ∀ j, j ≠ i → m' 385 j = m 385 j := by
  have hn := hR.2.1
  intro c
  induction c with
  | zero =>
    intro fuel o m ho hf hm hv
    cases fuel with
    | zero => omega
    | succ fuel =>
      show ∃ m', fX11_looks_L33_b kk (nI i) (fX11_looks_L33 kk (nI i) fuel) m (nI o) = kk m' ∧ _
      unfold fX11_looks_L33_b
      rw [hm 362 (by decide), hR.1, if_neg (nI_nlt (by omega) (by omega))]
      have : o = n := by omega
      subst this
      exact ⟨m, rfl, hm, hv, fun _ _ => rfl⟩
  | succ c ih =>
    intro fuel o m ho hf hm hv
    cases fuel with
    | zero => omega
    | succ fuel =>
      show ∃ m', fX11_looks_L33_b kk (nI i) (fX11_looks_L33 kk (nI i) fuel) m (nI o) = kk m' ∧ _
      unfold fX11_looks_L33_b
      have hb := inb_nI (show i < 12 by omega) (show 12 < 2 ^ 31 by decide)
      have hRm : RForms m n F := hR.congr (by rw [hm 362 (by decide)]) (fun q a b => hm q (by omega))
      rw [hm 362 (by decide), hR.1, if_pos (nI_lt (show o < n by omega) (by omega)), ck_t hb]
      simp only [lt_e, ck_t hb, ix_nI (show i < 2 ^ 31 by omega), nI_1]
      have step : ∀ v : Int32, v = (if (!decide (o = i) && ovrP (F i) (F o)) = true then 1 <<< (nI o &&& 31) else 0) → ∃ m', fX11_looks_L33 kk (nI i) fuel (sto m 385 i (m 385 i ||| v)) (nI (o + 1)) = kk m' ∧ (∀ q, q ≠ 385 → m' q = σ q) ∧ m' 385 i = OV F n i ∧ ∀ j, j ≠ i → m' 385 j = m 385 j := by
        intro v hv2
        obtain ⟨m', a1, a2, a3, a4⟩ := ih fuel (o + 1) (sto m 385 i (m 385 i ||| v)) (by omega) (by omega) (fun q hq => by rw [← hm q hq]; funext b; simp [sto_k, hq]) (by rw [sto_k, if_pos ⟨rfl, rfl⟩, hv, hv2, mkS])
        exact ⟨m', a1, a2, a3, fun j hj => by rw [a4 j hj, sto_k]; simp [hj]⟩
      by_cases e : o = i
      · rw [if_pos (by rw [e])]
        exact step 0 (by simp [e])
      · rw [if_neg (fun z => e ((nI_eq (by omega) (by omega)).mp z)), rIsOver_ok (hRm.2.2 i hi).1 (hRm.2.2 o (by omega)).1, cl_s]
        by_cases ho2 : ovrP (F i) (F o) = true
        · rw [if_pos ho2, if_neg (by decide)]
          exact step _ (by simp [e, ho2])
        · have ho3 : ovrP (F i) (F o) = false := by simpa using ho2
          rw [if_neg ho2, if_pos rfl]
          exact step 0 (by simp [ho3])
theorem overs_loop {σ : Mem} {n : Nat} {F : Nat → Fm} (hR : RForms σ n F) (kk : Mem → Option (Unit × Mem)) :
    ∀ (c fuel i : Nat) (m : Mem), i + c = n → c < fuel → (∀ q, q ≠ 385 → m q = σ q) → (∀ j, j < i → m 385 j = OV F n j) → (∀ j, i ≤ j → m 385 j = 0) →
      ∃ m', fX11_looks_L22 kk fuel m (nI i) = kk m' ∧ (∀ q, q ≠ 385 → m' q = σ q) ∧ ∀ j, j < n → m' 385 j = OV F n j := by
  have hn := hR.2.1
  intro c
  induction c with
  | zero =>
    intro fuel i m hi hf hm h1 h2
    cases fuel with
    | zero => omega
    | succ fuel =>
      show ∃ m', fX11_looks_L22_b kk (fX11_looks_L22 kk fuel) m (nI i) = kk m' ∧ _
      unfold fX11_looks_L22_b
      rw [hm 362 (by decide), hR.1, if_neg (nI_nlt (by omega) (by omega))]
      exact ⟨m, rfl, hm, fun j hj => h1 j (by omega)⟩
  | succ c ih =>
    intro fuel i m hi hf hm h1 h2
    cases fuel with
    | zero => omega
    | succ fuel =>
      show ∃ m', fX11_looks_L22_b kk (fX11_looks_L22 kk fuel) m (nI i) = kk m' ∧ _
      unfold fX11_looks_L22_b
      rw [hm 362 (by decide), hR.1, if_pos (nI_lt (show i < n by omega) (by omega)), nI_1]
      obtain ⟨m1, a1, a2, a3, a4⟩ := over_loop hR (show i < n by omega) (fun m39 => fX11_looks_L22 kk fuel m39 (nI (i + 1))) n 5000 0 m (by omega) (by omega) hm (by rw [h2 i (Nat.le_refl i)]; rfl)
      have hz : nI 0 = (0 : Int32) := rfl
      rw [hz] at a1
      rw [a1]
      exact ih fuel (i + 1) m1 (by omega) (by omega) a2 (fun j hj => by
        by_cases e : j = i
        · subst e; exact a3
        · rw [a4 j e]; exact h1 j (by omega)) (fun j hj => by rw [a4 j (by omega)]; exact h2 j (by omega))
theorem fit_loop {σ : Mem} {n : Nat} {F : Nat → Fm} (hR : RForms σ n F) (w : Int32) (kk : Mem → Int32 → Option (Unit × Mem)) :
    ∀ (fuel i : Nat), i ≤ n → n - i < fuel → fX11_looks_L99 kk w fuel σ (mkS (fun j => fitP (F j) w) i) (nI i) = kk σ (fitS F n w) := by
  have hn := hR.2.1
  intro fuel
  induction fuel with
  | zero => intro i hi hm; omega
  | succ m ih =>
    intro i hi hm
    show fX11_looks_L99_b kk w (fX11_looks_L99 kk w m) σ _ (nI i) = _
    unfold fX11_looks_L99_b
    rw [hR.1]
    by_cases e : i < n
    · rw [if_pos (nI_lt e (by omega)), fitsWord_ok (hR.2.2 i e).1 (hR.2.2 i e).2, cl_s]
      simp only [lt_e, nI_1]
      have := ih (i + 1) (by omega) (by omega)
      rw [mkS] at this
      by_cases hf : fitP (F i) w = true
      · rw [if_pos hf] at this ⊢
        rw [if_neg (by decide)]
        exact this
      · rw [if_neg hf] at this ⊢
        rw [if_pos rfl]
        exact this
    · have : i = n := by omega
      subst this
      rw [if_neg (nI_nlt (by omega) (by omega))]
      rfl
theorem rest0r {F : Nat → Fm} {n i : Nat} (hn : n ≤ 12) (hi : i < n) (w : Int32) : (fitS F n w &&& ((OV F n i ||| (1 <<< (nI i &&& 31))) ^^^ (-1)) = 0) ↔ (List.range n).all (fun j => !fitP (F j) w || (decide (j = i) || ovrP (F i) (F j))) = true := by
  rw [eq0_bt, List.all_eq_true]
  constructor
  · intro h j hj
    have hj' := List.mem_range.mp hj
    have := h j (by omega)
    rw [bt_and, bt_not, bt_or, bt_one (by omega), fitS_bt hn, OV, bt_mkS _ (by omega)] at this
    have h32 : j < 32 := by omega
    simp only [hj', h32, decide_true, Bool.true_and] at this
    cases hfit : fitP (F j) w with
    | false => simp
    | true =>
      rw [hfit] at this
      by_cases e : j = i
      · simp [e]
      · cases ho : ovrP (F i) (F j) with
        | true => simp
        | false => rw [ho] at this; simp [e] at this
  · intro h j hj
    rw [bt_and, bt_not, bt_or, bt_one (by omega), fitS_bt hn, OV, bt_mkS _ (by omega)]
    by_cases hjn : j < n
    · have := h j (List.mem_range.mpr hjn)
      cases hfit : fitP (F j) w with
      | false => simp
      | true =>
        rw [hfit] at this
        by_cases e : j = i
        · simp [e]
        · have ho : ovrP (F i) (F j) = true := by simpa [e] using this
          simp [ho, hjn, e]
    · simp [hjn]
theorem mean_loop {n : Nat} {F : Nat → Fm} (hn : n ≤ 12) (w : Int32) {v : Nat} (hv : v < 4096) (kk : Mem → Option (Unit × Mem)) :
    ∀ (c fuel i : Nat) (m : Mem), i + c = n → c < fuel → m 362 8 = nI n → (∀ j, j < n → m 385 j = OV F n j) →
      ∃ m', fX11_looks_L165 kk (nI v) (fitS F n w) fuel m (nI i) = kk m' ∧ (∀ q, q ≠ 372 → m' q = m q) ∧ (∀ j, j ≠ v → m' 372 j = m 372 j) ∧ m' 372 v = match fndF (bst F n w) i c with | some j => nI j | none => m 372 v := by
  intro c
  induction c with
  | zero =>
    intro fuel i m hi hf h8 hO
    cases fuel with
    | zero => omega
    | succ fuel =>
      show ∃ m', fX11_looks_L165_b kk (nI v) (fitS F n w) (fX11_looks_L165 kk (nI v) (fitS F n w) fuel) m (nI i) = kk m' ∧ _
      unfold fX11_looks_L165_b
      rw [h8, if_neg (nI_nlt (by omega) (by omega))]
      exact ⟨m, rfl, fun _ _ => rfl, fun _ _ => rfl, rfl⟩
  | succ c ih =>
    intro fuel i m hi hf h8 hO
    cases fuel with
    | zero => omega
    | succ fuel =>
      show ∃ m', fX11_looks_L165_b kk (nI v) (fitS F n w) (fX11_looks_L165 kk (nI v) (fitS F n w) fuel) m (nI i) = kk m' ∧ _
      unfold fX11_looks_L165_b
      have hin : i < n := by omega
      rw [h8, if_pos (nI_lt hin (by omega)), ck_t (inb_nI (show i < 12 by omega) (by decide)), ix_nI (by omega), hO i hin]
      simp only [lt_e, nI_1]
      rw [has_ok m _ (show i < 32 by omega), cl_s, fitS_bt hn, fndF]
      simp only [hin, decide_true, Bool.true_and]
      by_cases hf1 : fitP (F i) w = true
      · rw [if_pos hf1, if_neg (by decide)]
        have hr := rest0r (F := F) hn hin w
        by_cases ha : (List.range n).all (fun j => !fitP (F j) w || (decide (j = i) || ovrP (F i) (F j))) = true
        · have hb : bst F n w i = true := by rw [bst, hf1, ha]; rfl
          rw [if_pos (hr.mpr ha), ck_t (inb_nI hv (by decide)), ix_nI (by omega), if_pos hb]
          obtain ⟨m', a1, a2, a3, a4⟩ := ih fuel (i + 1) (sto m 372 v (nI i)) (by omega) (by omega) (by rw [sto_k]; simpa using h8) (fun j hj => by rw [sto_k]; simpa using hO j hj)
          refine ⟨m', a1, fun q hq => by rw [a2 q hq]; funext b; simp [sto_k, hq], fun j hj => by rw [a3 j hj, sto_k]; simp [hj], ?_⟩
          rw [a4]
          cases hfn : fndF (bst F n w) (i + 1) c with
          | none => simp [sto_k]
          | some j =>
            have h3 := fndF_lt hfn
            have := bst_uniq hb h3.2.2 hin (by omega)
            omega
        · have hb : ¬ bst F n w i = true := by rw [bst, hf1, Bool.true_and]; exact ha
          rw [if_neg (fun z => ha (hr.mp z)), if_neg hb]
          exact ih fuel (i + 1) m (by omega) (by omega) h8 hO
      · have hf' : fitP (F i) w = false := by simpa using hf1
        have hb : ¬ bst F n w i = true := by rw [bst, hf']; simp
        rw [if_neg hf1, if_pos rfl, if_neg hb]
        exact ih fuel (i + 1) m (by omega) (by omega) h8 hO
