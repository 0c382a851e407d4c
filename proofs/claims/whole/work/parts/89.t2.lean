/-! ===== texts: a statement, in the class ===== -/
theorem clear_ok {σ : Mem} (hS : CSg σ) {c : Nat} (hc : c < 12) (P : Nat → Nat) :
    ∃ σ', fX3_clear (11 + 22 * c) σ = some ((), σ') ∧ CPk σ' (11 + 22 * c) P 0 ∧ σ' (11 + 22 * c) 10 = 0 ∧ (∀ q, q < 11 + 22 * c ∨ 11 + 22 * c + 22 ≤ q → σ' q = σ q) ∧ CSg σ' := by
  unfold fX3_clear
  simp only [lt_e]
  generalize hm : sto (sto (sto (sto (sto σ (11 + 22 * c) 1 0) (11 + 22 * c) 2 0) (11 + 22 * c) 3 0) (11 + 22 * c) 6 0) (11 + 22 * c) 10 0 = m0
  have q0 : ∀ q, q ≠ 11 + 22 * c → m0 q = σ q := fun q hq => by rw [← hm, sto_ne hq, sto_ne hq, sto_ne hq, sto_ne hq, sto_ne hq]
  have s2 : m0 (11 + 22 * c) 2 = 0 := by rw [← hm, sto_nj (by decide), sto_nj (by decide), sto_nj (by decide), sto_eq]
  have s3 : m0 (11 + 22 * c) 3 = 0 := by rw [← hm, sto_nj (by decide), sto_nj (by decide), sto_eq]
  have s6 : m0 (11 + 22 * c) 6 = 0 := by rw [← hm, sto_nj (by decide), sto_eq]
  have s10 : m0 (11 + 22 * c) 10 = 0 := by rw [← hm, sto_eq]
  refine loopM (fX3_clear_L27 (fun (m10 : Mem) => some ((), m10)) (11 + 22 * c)) (fX3_clear_L27_b (fun (m10 : Mem) => some ((), m10)) (11 + 22 * c)) (fun _ _ _ => rfl) 8
    (fun l m => (∀ q, (∀ x, x < 8 → q ≠ 11 + 22 * c + 1 + 5 + 2 * x) → m q = m0 q) ∧ (∀ x, x < 8 → m (11 + 22 * c + 1 + 5 + 2 * x) 0 = m0 (11 + 22 * c + 1 + 5 + 2 * x) 0) ∧ ∀ x, x < l → m (11 + 22 * c + 1 + 5 + 2 * x) 2 = 0 ∧ m (11 + 22 * c + 1 + 5 + 2 * x) 3 = 0)
    (fun r => ∃ σ', r = some ((), σ') ∧ CPk σ' (11 + 22 * c) P 0 ∧ σ' (11 + 22 * c) 10 = 0 ∧ (∀ q, q < 11 + 22 * c ∨ 11 + 22 * c + 22 ≤ q → σ' q = σ q) ∧ CSg σ') ?_ ?_ 5000 0 m0 (by omega) (by omega) ⟨fun _ _ => rfl, fun _ _ => rfl, fun x hx => by omega⟩
  · rintro m rec ⟨g1, g2, g3⟩
    unfold fX3_clear_L27_b
    rw [if_neg (by decide)]
    have hk0 : m (11 + 22 * c) = m0 (11 + 22 * c) := g1 _ (fun x hx => by omega)
    have h0 : ∀ g : Nat → Bool, mkS (fun b => g b && decide (12 ≤ b + 0)) 12 = 0 := fun g => by
      rw [eq0_bt]
      intro j _
      rw [bt_mkS _ (by decide)]
      by_cases e : j < 12
      · have : ¬ 12 ≤ j := by omega
        simp [this]
      · simp [e]
    have hc0 : ∀ l, cnt (fpk P 0 l) 12 = 0 := fun l => by
      have := cnt_pos (p := fpk P 0 l) (n := 12)
      have hno : ¬ 0 < cnt (fpk P 0 l) 12 := fun z => by
        obtain ⟨b, hb, hf⟩ := this.mp z
        unfold fpk at hf
        simp only [Bool.and_eq_true, decide_eq_true_eq] at hf
        omega
      omega
    refine ⟨m, rfl, ⟨?_, ?_, fun l hl => ?_, ?_, fun i hi => absurd hi (by simp [ordL])⟩, by rw [hk0]; exact s10, fun q hq => ?_, fun i l hi hl => ?_⟩
    · rw [hk0, s2, h0 (fun b => P b == 48 || P b == 49)]
    · rw [hk0, s3, h0 (fun b => P b == 49)]
    · refine ⟨?_, ?_, ?_, fun i hi => ?_, by rw [hc0]; omega⟩
      · rw [g2 l hl, q0 _ (by omega), hS c l hc hl]
        by_cases z : 3 < l <;> simp [z]
      · rw [(g3 l hl).1, hc0]; rfl
      · rw [(g3 l hl).2]
        have := h0 (fp P l)
        exact this.symm
      · rw [dsc_len, hc0] at hi; omega
    · rw [hk0, s6]; rfl
    · rw [g1 q (fun x hx => by omega), q0 q (by omega)]
    · by_cases e : i = c
      · subst e; rw [g2 l hl, q0 _ (by omega)]; exact hS i l hi hl
      · rw [g1 _ (fun x hx => by omega), q0 _ (by omega)]; exact hS i l hi hl
  · rintro l m rec hl ⟨g1, g2, g3⟩
    right
    unfold fX3_clear_L27_b fX2_clear
    rw [if_pos (show nI l < 8 from nI_lt (b := 8) hl (by decide)), ck_t (inb_nI hl (by decide)), lt_e, lt_e, cl_s, ix_nI (by omega), nI_1]
    refine ⟨_, ⟨fun q hq => ?_, fun x hx => ?_, fun x hx => ?_⟩, rfl⟩
    · rw [sto_ne (hq l hl), sto_ne (hq l hl)]; exact g1 q hq
    · by_cases e : x = l
      · subst e; rw [sto_nj (by decide), sto_nj (by decide)]; exact g2 x hx
      · rw [sto_ne (by omega), sto_ne (by omega)]; exact g2 x hx
    · by_cases e : x = l
      · subst e; exact ⟨by rw [sto_nj (by decide), sto_eq], sto_eq⟩
      · rw [sto_ne (by omega), sto_ne (by omega)]; exact g3 x (by omega)
theorem kindOf_ok (σ : Mem) {t : Tp} (ht : Tok t) (p : Nat) : fX10_kindOf σ (bA t p) = some (ansO (kdA t p), σ) := by
  unfold fX10_kindOf
  refine loopX (fX10_kindOf_L2 (fun (x5 : Int32) => some (x5, σ)) (some ((-1 : Int32), σ)) σ (bA t p)) (fX10_kindOf_L2_b (fun (x5 : Int32) => some (x5, σ)) (some ((-1 : Int32), σ)) σ (bA t p)) (fun _ _ => rfl) 7
    (fun i => ∀ j, j < i → kdA t p ≠ some j)
    (fun r => r = some (ansO (kdA t p), σ)) ?_ ?_ 5000 0 (by omega) (by omega) (fun j hj => by omega)
  · intro rec e
    unfold fX10_kindOf_L2_b
    rw [if_neg (by decide)]
    cases hk : kdA t p with
    | none => rfl
    | some k =>
      have h7 : k < 7 := by
        unfold kdA at hk
        split at hk
        · exact (kdO_iff.mp hk).1
        · cases hk
      exact absurd hk (e k h7)
  · intro i rec hi e
    unfold fX10_kindOf_L2_b
    rw [if_pos (show nI i < 7 from nI_lt (b := 7) hi (by decide)), ck_t (inb_nI hi (by decide)), ix_nI (by omega), (kdS_all i hi).2.2.1, nI_1]
    have hki := kdA_iff ht (p := p) hi
    by_cases z : kdA t p = some i
    · left
      rw [if_pos (hki.mpr z), z]; rfl
    · right
      rw [if_neg (fun y => z (hki.mp y))]
      refine ⟨fun j hj => ?_, rfl⟩
      by_cases y : j = i
      · subst y; exact z
      · exact e j (by omega)
/-- the code of a name that begins at b -/
def codB (t : Tp) (b i : Nat) : Nat := if i = 0 then 0 else if i = 1 then t.2 b else if i = 2 then t.2 b * 256 + t.2 (b + 1) else (t.2 b * 256 + t.2 (b + 1)) * 256 + t.2 (b + 2)
theorem nmK_le (t : Tp) (p : Nat) : nmK t p ≤ 3 := spn_le _ _ _
theorem nmK_all {t : Tp} {p j : Nat} (h : j < nmK t p) : Ltr (t.2 (p + 1 + j)) ∧ p + 1 + j < t.1 := by
  have := spn_all (q := isBt t 97 122) (i := p + 1) (j := p + 1 + j) (c := 3) (by omega) (by unfold nmK at h; omega)
  have := isBt_lt this
  exact ⟨⟨this.2.1, this.2.2⟩, this.1⟩
theorem nmF_nm {t : Tp} {p : Nat} (h : nmK t p ≠ 0) : Nm (nmF t p 0) (nmF t p 1) (nmF t p 2) := by
  have hle := nmK_le t p
  refine ⟨?_, ?_, ?_, ?_⟩
  · unfold nmF; rw [if_pos (by omega)]; exact (nmK_all (by omega)).1
  · unfold nmF
    by_cases z : 1 < nmK t p
    · rw [if_pos z]; exact Or.inr (nmK_all z).1
    · rw [if_neg z]; exact Or.inl rfl
  · unfold nmF
    by_cases z : 2 < nmK t p
    · rw [if_pos z]; exact Or.inr (nmK_all z).1
    · rw [if_neg z]; exact Or.inl rfl
  · unfold nmF
    by_cases z : 1 < nmK t p
    · rw [if_pos z]
      intro y
      have := (nmK_all z).1
      unfold Ltr at this
      omega
    · intro _
      rw [if_neg (by omega)]
theorem codB_nm {t : Tp} {p : Nat} (h : nmK t p ≠ 0) : codB t (p + 1) (nmK t p) = nm3 (nmF t p 0) (nmF t p 1) (nmF t p 2) := by
  have hle := nmK_le t p
  have hc : nmK t p = 1 ∨ nmK t p = 2 ∨ nmK t p = 3 := by omega
  unfold nmF
  rcases hc with e | e | e
  · rw [e]; simp [codB, nm3]
  · have l1 := (nmK_all (t := t) (p := p) (j := 1) (by omega)).1
    unfold Ltr at l1
    have : ¬ t.2 (p + 1 + 1) = 0 := by omega
    rw [e]; simp [codB, nm3, this]
  · have l1 := (nmK_all (t := t) (p := p) (j := 1) (by omega)).1
    have l2 := (nmK_all (t := t) (p := p) (j := 2) (by omega)).1
    unfold Ltr at l1 l2
    have a1 : ¬ t.2 (p + 1 + 1) = 0 := by omega
    have a2 : ¬ t.2 (p + 1 + 2) = 0 := by omega
    rw [e]; simp [codB, nm3, a1, a2]
abbrev Fp4 (σ σ' : Mem) : Prop := ∀ j, j ≠ 2 → σ' 294 j = σ 294 j
theorem name_ok {σ : Mem} {t : Tp} (hT : CTp σ t) (ht : Tok t) {c : Nat} (hc : c < 12) {G : Nat → Fm} (hG : ∀ i, i < c → σ (11 + 22 * i) 1 = nI (nmC (G i)) ∧ Nok (G i)) {p : Nat} (hp : p < 500) (h2 : σ 294 2 = nI (p + 1)) (h3 : σ 294 3 = nI c) :
    ∃ σ', σ' 294 2 = nI (p + 1 + nmK t p) ∧ Fp4 σ σ' ∧ (∀ q, q ≠ 294 → q ≠ 11 + 22 * c → σ' q = σ q) ∧ (∀ j, j ≠ 1 → σ' (11 + 22 * c) j = σ (11 + 22 * c) j) ∧ fX7_name σ (11 + 22 * c) = some (if nmK t p = 0 ∨ tkn G c t p ≠ none then 0 else 1, σ') ∧ (¬ (nmK t p = 0 ∨ tkn G c t p ≠ none) → σ' (11 + 22 * c) 1 = nI (nm3 (nmF t p 0) (nmF t p 1) (nmF t p 2))) := by
  have hle := nmK_le t p
  unfold fX7_name
  have fin : ∀ m, m 294 2 = nI (p + 1 + nmK t p) → Fp4 σ m → (∀ q, q ≠ 294 → m q = σ q) → ∃ σ', σ' 294 2 = nI (p + 1 + nmK t p) ∧ Fp4 σ σ' ∧ (∀ q, q ≠ 294 → q ≠ 11 + 22 * c → σ' q = σ q) ∧ (∀ j, j ≠ 1 → σ' (11 + 22 * c) j = σ (11 + 22 * c) j) ∧ (if nI (codB t (p + 1) (nmK t p)) = (0 : Int32) then some ((0 : Int32), m) else cl (fX4_find m (nI (codB t (p + 1) (nmK t p))) (m 294 3)) <| fun r10 m9 => if r10 = (-1 : Int32) then (lt (sto m9 (11 + 22 * c) 1 (nI (codB t (p + 1) (nmK t p)))) <| fun m11 => some ((1 : Int32), m11)) else some ((0 : Int32), m9)) = some (if nmK t p = 0 ∨ tkn G c t p ≠ none then 0 else 1, σ') ∧ (¬ (nmK t p = 0 ∨ tkn G c t p ≠ none) → σ' (11 + 22 * c) 1 = nI (nm3 (nmF t p 0) (nmF t p 1) (nmF t p 2))) := by
    intro m g1 g2 g3
    by_cases z : nmK t p = 0
    · rw [z, if_pos (show nI (codB t (p + 1) 0) = 0 from rfl), if_pos (Or.inl rfl)]
      exact ⟨m, by rw [g1, z], g2, fun q a _ => g3 q a, fun j _ => by rw [g3 _ (by omega)], rfl, fun y => absurd (Or.inl rfl) y⟩
    have hN := nmF_nm z
    have hlt := nm3_lt hN
    have hpos := nm3_pos hN
    rw [codB_nm z, if_neg (nI_ne0 hpos (by omega)), g2 3 (by decide), h3, find_ok (F := G) (by omega) (fun i hi => ⟨by rw [g3 _ (by omega)]; exact (hG i hi).1, by have := nm3_lt (hG i hi).2.nm; rw [nmC_nm3]; omega⟩) (by omega), cl_s]
    rw [fndF_congr (fun j _ hj => nmC_eq (hG j (by omega)).2 hN)]
    show ∃ σ', _ ∧ _ ∧ _ ∧ _ ∧ (if ansO (tkn G c t p) = -1 then _ else _) = _ ∧ _
    cases hk : tkn G c t p with
    | none =>
      rw [if_pos (show ansO none = -1 from rfl), lt_e, if_neg (by simp [z])]
      exact ⟨_, by rw [sto_ne (by omega)]; exact g1, fun j hj => by rw [sto_ne (by omega)]; exact g2 j hj, fun q a b => by rw [sto_ne b]; exact g3 q a, fun j hj => by rw [sto_nj hj, g3 _ (by omega)], rfl, fun _ => sto_eq⟩
    | some i =>
      have hi := fndF_lt hk
      rw [if_neg (show ¬ ansO (some i) = -1 from fun y => absurd (nI_pos' (show i < 2 ^ 31 by omega)) (by rw [show nI i = -1 from y]; decide)), if_pos (Or.inr (by simp))]
      exact ⟨m, g1, g2, fun q a _ => g3 q a, fun j _ => by rw [g3 _ (by omega)], rfl, fun y => absurd (Or.inr (by simp)) y⟩
  refine loopA (fX7_name_L4 _ (11 + 22 * c)) (fX7_name_L4_b _ (11 + 22 * c)) (fun _ _ _ _ => rfl) 3
    (fun k m x => x = nI (codB t (p + 1) k) ∧ m 294 2 = nI (p + 1 + k) ∧ Fp4 σ m ∧ (∀ q, q ≠ 294 → m q = σ q) ∧ nmK t p = k + spn (isBt t 97 122) (p + 1 + k) (3 - k))
    (fun r => ∃ σ', σ' 294 2 = nI (p + 1 + nmK t p) ∧ Fp4 σ σ' ∧ (∀ q, q ≠ 294 → q ≠ 11 + 22 * c → σ' q = σ q) ∧ (∀ j, j ≠ 1 → σ' (11 + 22 * c) j = σ (11 + 22 * c) j) ∧ r = some (if nmK t p = 0 ∨ tkn G c t p ≠ none then 0 else 1, σ') ∧ (¬ (nmK t p = 0 ∨ tkn G c t p ≠ none) → σ' (11 + 22 * c) 1 = nI (nm3 (nmF t p 0) (nmF t p 1) (nmF t p 2)))) ?_ ?_ 5000 0 σ 0 (by omega) (by omega) ⟨rfl, h2, fun _ _ => rfl, fun _ _ => rfl, by rw [Nat.zero_add]; rfl⟩
  · rintro m x rec ⟨rfl, g1, g2, g3, e⟩
    unfold fX7_name_L4_b
    rw [if_neg (by decide)]
    have e' : nmK t p = 3 := e
    have := fin m (by rw [g1, e']) g2 g3
    rw [e'] at this ⊢
    exact this
  · rintro k m x rec hk ⟨rfl, g1, g2, g3, e⟩
    unfold fX7_name_L4_b
    have hm : CTp m t := by unfold CTp; rw [g3 281 (by decide), g3 282 (by decide)]; exact hT
    rw [if_pos (show nI k < 3 from nI_lt (b := 3) hk (by decide)), g1, cat_ok hm ht (by omega), cl_s, cin ht, cl_s]
    rw [spn_s (q := isBt t 97 122) (i := p + 1 + k) hk] at e
    by_cases z : isBt t 97 122 (p + 1 + k) = true
    · right
      have hz := isBt_lt z
      rw [if_pos z] at e
      have hbA : bA t (p + 1 + k) = nI (t.2 (p + 1 + k)) := by unfold bA; rw [if_pos hz.1]
      have l256 := ht.2
      have hb0 : codB t (p + 1) k < 2 ^ 16 := by
        have hcc : k = 0 ∨ k = 1 ∨ k = 2 := by omega
        rcases hcc with y | y | y
        · subst y; simp [codB]
        · subst y; have := l256 (p + 1) (by omega); simp [codB]; omega
        · subst y; have := l256 (p + 1) (by omega); have := l256 (p + 1 + 1) (by omega); simp [codB]; omega
      rw [if_pos z, if_neg (by decide), g1, cat_ok hm ht (by omega), cl_s, hbA, withSign_ok m hb0 (by omega), cl_s, lt_e, g1, nI_1, nI_1]
      refine ⟨_, _, ⟨?_, sto_eq, fun j hj => by rw [sto_nj hj]; exact g2 j hj, fun q hq => by rw [sto_ne hq]; exact g3 q hq, ?_⟩, rfl⟩
      · have hcc : k = 0 ∨ k = 1 ∨ k = 2 := by omega
        rcases hcc with y | y | y
        · subst y; simp [codB]
        · subst y; simp [codB]
        · subst y; simp [codB]
      · rw [show p + 1 + (k + 1) = p + 1 + k + 1 by omega]; omega
    · left
      rw [if_neg z] at e
      have e' : nmK t p = k := by omega
      rw [if_neg z, if_pos rfl]
      have := fin m (by rw [g1, e']) g2 g3
      rw [e'] at this ⊢
      exact this
theorem sign_ok {σ : Mem} {t : Tp} (hT : CTp σ t) (ht : Tok t) {p : Nat} (hp : p < 1000) (h2 : σ 294 2 = nI p) {d : Nat} (hd : d < 256) : fX7_sign σ (nI d) = some (if isC t d p = true then (1, sto σ 294 2 (nI (p + 1))) else (0, σ)) := by
  unfold fX7_sign
  rw [h2, cat_ok hT ht (by omega), cl_s]
  have := bA_eq ht (c := d) (by omega) p
  by_cases z : isC t d p = true
  · rw [if_pos (this.mpr z), if_pos z, lt_e, h2, nI_1]
  · rw [if_neg (fun y => z (this.mp y)), if_neg z]
theorem pattern_ok {σ : Mem} {t : Tp} (hT : CTp σ t) (ht : Tok t) {c : Nat} (hc : c < 12) {p : Nat} (hp : p < 1000) (h2 : σ 294 2 = nI p) (h0 : CPk σ (11 + 22 * c) (pP t p) 0) :
    ∃ σ', fX7_pattern σ (11 + 22 * c) = some (if spn (sgOk t p) 0 12 < 12 then 0 else 1, σ') ∧ σ' 294 2 = nI (p + spn (sgOk t p) 0 12) ∧ Fp4 σ σ' ∧ (∀ q, q < 11 + 22 * c ∨ 11 + 22 * c + 22 ≤ q → q ≠ 294 → σ' q = σ q) ∧ (∀ j, j ≠ 2 → j ≠ 3 → j ≠ 6 → σ' (11 + 22 * c) j = σ (11 + 22 * c) j) ∧ (∀ l, l < 8 → σ' (11 + 22 * c + 1 + 5 + 2 * l) 0 = if decide (3 < l) = true then 1 else 0) ∧ (¬ spn (sgOk t p) 0 12 < 12 → CPk σ' (11 + 22 * c) (pP t p) 12) := by
  unfold fX7_pattern
  rw [show (11 : Int32) = (fun k => nI (12 - k) - 1) 0 from by decide]
  refine loopMc (fun k => nI (12 - k) - 1) (fX7_pattern_L3 (fun (m5 : Mem) => some ((0 : Int32), m5)) (fun (m7 : Mem) => some ((1 : Int32), m7)) (11 + 22 * c)) (fX7_pattern_L3_b (fun (m5 : Mem) => some ((0 : Int32), m5)) (fun (m7 : Mem) => some ((1 : Int32), m7)) (11 + 22 * c)) (fun _ _ _ => rfl) 12
    (fun k m => m 294 2 = nI (p + k) ∧ Fp4 σ m ∧ (∀ q, q < 11 + 22 * c ∨ 11 + 22 * c + 22 ≤ q → q ≠ 294 → m q = σ q) ∧ (∀ j, j ≠ 2 → j ≠ 3 → j ≠ 6 → m (11 + 22 * c) j = σ (11 + 22 * c) j) ∧ CPk m (11 + 22 * c) (pP t p) k ∧ spn (sgOk t p) 0 12 = k + spn (sgOk t p) k (12 - k))
    (fun r => ∃ σ', r = some (if spn (sgOk t p) 0 12 < 12 then 0 else 1, σ') ∧ σ' 294 2 = nI (p + spn (sgOk t p) 0 12) ∧ Fp4 σ σ' ∧ (∀ q, q < 11 + 22 * c ∨ 11 + 22 * c + 22 ≤ q → q ≠ 294 → σ' q = σ q) ∧ (∀ j, j ≠ 2 → j ≠ 3 → j ≠ 6 → σ' (11 + 22 * c) j = σ (11 + 22 * c) j) ∧ (∀ l, l < 8 → σ' (11 + 22 * c + 1 + 5 + 2 * l) 0 = if decide (3 < l) = true then 1 else 0) ∧ (¬ spn (sgOk t p) 0 12 < 12 → CPk σ' (11 + 22 * c) (pP t p) 12)) ?_ ?_ 5000 0 σ (by omega) (by omega) ⟨h2, fun _ _ => rfl, fun _ _ _ => rfl, fun _ _ _ _ => rfl, h0, by rw [Nat.zero_add]⟩
  · rintro m rec ⟨g1, g2, g3, g4, g5, e⟩
    unfold fX7_pattern_L3_b
    have e' : spn (sgOk t p) 0 12 = 12 := e
    rw [if_pos (by decide), e', if_neg (by omega)]
    exact ⟨m, rfl, g1, g2, g3, g4, fun l hl => (g5.2.2.1 l hl).1, fun _ => g5⟩
  · rintro k m rec hk ⟨g1, g2, g3, g4, g5, e⟩
    unfold fX7_pattern_L3_b
    have hm : CTp m t := by unfold CTp; rw [g3 281 (by omega) (by decide), g3 282 (by omega) (by decide)]; exact hT
    obtain ⟨m1, b1, b2, b3, b4⟩ := addSign_ok ht hk g5
    rw [spn_s (q := sgOk t p) (i := k) hk] at e
    rw [dn12 hk, if_neg (nI_pos (by omega)), g1, cat_ok hm ht (by omega), cl_s, b1, cl_s, dn12' hk]
    have m294 : m1 294 = m 294 := b2.1 294 (by omega)
    have f2 : Fp4 σ m1 := fun j hj => by rw [m294]; exact g2 j hj
    have f3 : ∀ q, q < 11 + 22 * c ∨ 11 + 22 * c + 22 ≤ q → q ≠ 294 → m1 q = σ q := fun q hq hn => by rw [b2.1 q hq]; exact g3 q hq hn
    have f4 : ∀ j, j ≠ 2 → j ≠ 3 → j ≠ 6 → m1 (11 + 22 * c) j = σ (11 + 22 * c) j := fun j x y z => by rw [b2.2.1 j x y z]; exact g4 j x y z
    by_cases z : sgOk t p k = true
    · right
      rw [if_pos z] at e
      rw [if_pos z, if_neg (by decide), lt_e, m294, g1, nI_1]
      have hk0 : 11 + 22 * c ≠ 294 := by omega
      refine ⟨_, ⟨sto_eq, fun j hj => by rw [sto_nj hj]; exact f2 j hj, fun q hq hn => by rw [sto_ne hn]; exact f3 q hq hn, fun j x y w => by rw [sto_ne hk0]; exact f4 j x y w, ?_, by omega⟩, rfl⟩
      obtain ⟨p1, p2, p3, p4, p5⟩ := b3 z
      exact ⟨by rw [sto_ne hk0]; exact p1, by rw [sto_ne hk0]; exact p2, fun l hl => (p3 l hl).congr (sto_ne (by omega)) (sto_ne (by omega)), by rw [sto_ne hk0]; exact p4, fun i hi => by rw [sto_ne (by omega)]; exact p5 i hi⟩
    · left
      rw [if_neg z] at e
      have e' : spn (sgOk t p) 0 12 = k := by omega
      rw [if_neg z, if_pos rfl, e', if_pos hk]
      exact ⟨m1, rfl, by rw [m294]; exact g1, f2, f3, f4, b4, fun y => absurd hk y⟩
