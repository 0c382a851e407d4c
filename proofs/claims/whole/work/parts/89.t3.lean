/-! ===== texts: rules, in the class ===== -/
def lyes (P : Nat → Nat) (o : Option Nat) : Bool := match o with
  | none => false
  | some l => decide (0 < cnt (fp P l) 12)
abbrev CFl (σ : Mem) (k0 : Nat) (P : Nat → Nat) : Prop := ∀ l, l < 8 → CField σ (k0 + 1 + 5 + 2 * l) (fp P l) (decide (3 < l))
theorem letter_ok {σ : Mem} {t : Tp} (hT : CTp σ t) (ht : Tok t) {k0 : Nat} {P : Nat → Nat} (hF : CFl σ k0 P) {p : Nat} (hp : p < 1000) (h2 : σ 294 2 = nI p) :
    fX7_letter σ k0 = some (if lyes P (lofA t p) = true then (1, sto σ 294 2 (nI (p + 1))) else (0, σ)) := by
  unfold fX7_letter
  rw [h2, cat_ok hT ht (by omega), cl_s, cletA σ ht, cl_s]
  cases hl : lofA t p with
  | none => rw [if_pos (show ansO none = -1 from rfl), if_neg (show ¬ lyes P none = true from fun z => by cases z)]
  | some l =>
    have h8 := (lofA_8 hl).1
    rw [show ansO (some l) = nI l from rfl, if_neg (fun y => absurd (nI_pos' (show l < 2 ^ 31 by omega)) (by rw [y]; decide)), ck_t (inb_nI h8 (by decide)), ix_nI (by omega), (hF l h8).2.1]
    have h12 := cnt_le (fp P l) 12
    by_cases z : 0 < cnt (fp P l) 12
    · rw [if_neg (nI_ne0 z (by omega)), if_pos (show lyes P (some l) = true from decide_eq_true z), lt_e, h2, nI_1]
    · rw [show cnt (fp P l) 12 = 0 by omega, if_pos (show nI 0 = 0 from rfl), if_neg (show ¬ lyes P (some l) = true from fun y => z (of_decide_eq_true y))]
theorem numT_ok {σ : Mem} {t : Tp} (hT : CTp σ t) (ht : Tok t) {p : Nat} (hp : p < 1000) (h2 : σ 294 2 = nI p) {a b : Nat} (ha : a < 2 ^ 31) (hb : b < 2 ^ 31) :
    ∃ σ', fX7_number σ (nI a) (nI b) = some (if spn (isBt t 48 57) p 3 = 0 ∨ ¬ (a ≤ dvl t p (spn (isBt t 48 57) p 3) ∧ dvl t p (spn (isBt t 48 57) p 3) ≤ b) then -1 else nI (dvl t p (spn (isBt t 48 57) p 3)), σ') ∧ σ' 294 2 = nI (if spn (isBt t 48 57) p 3 = 0 ∨ ¬ (a ≤ dvl t p (spn (isBt t 48 57) p 3) ∧ dvl t p (spn (isBt t 48 57) p 3) ≤ b) then p else p + spn (isBt t 48 57) p 3) ∧ Fp4 σ σ' ∧ ∀ q, q ≠ 294 → σ' q = σ q := by
  have hk3 := spn_le (isBt t 48 57) 3 p
  have hv := dvl_lt (t := t) (p := p) (spn (isBt t 48 57) p 3) (fun j hj => spn_all (i := p) (c := 3) (by omega) (by omega))
  have h10 : dvl t p (spn (isBt t 48 57) p 3) < 1000 := Nat.lt_of_lt_of_le hv (Nat.pow_le_pow_right (n := 10) (by decide) hk3)
  unfold fX7_number
  simp only [lt_e]
  rw [h2]
  generalize hkk : (fun (m10 : Mem) (x11 : Int32) => if (m10 294 2) = nI p then some ((-1 : Int32), sto m10 294 2 (nI p)) else cl (fX10_within m10 x11 (nI a) (nI b)) fun r15 m14 => if r15 = (0 : Int32) then some ((-1 : Int32), sto m14 294 2 (nI p)) else some (x11, m14)) = kk
  have fin : ∀ m, m 294 2 = nI (p + spn (isBt t 48 57) p 3) → Fp4 σ m → (∀ q, q ≠ 294 → m q = σ q) → ∃ σ', kk m (nI (dvl t p (spn (isBt t 48 57) p 3))) = some (if spn (isBt t 48 57) p 3 = 0 ∨ ¬ (a ≤ dvl t p (spn (isBt t 48 57) p 3) ∧ dvl t p (spn (isBt t 48 57) p 3) ≤ b) then -1 else nI (dvl t p (spn (isBt t 48 57) p 3)), σ') ∧ σ' 294 2 = nI (if spn (isBt t 48 57) p 3 = 0 ∨ ¬ (a ≤ dvl t p (spn (isBt t 48 57) p 3) ∧ dvl t p (spn (isBt t 48 57) p 3) ≤ b) then p else p + spn (isBt t 48 57) p 3) ∧ Fp4 σ σ' ∧ ∀ q, q ≠ 294 → σ' q = σ q := by
    intro m g1 g2 g3
    rw [← hkk]
    show ∃ σ', (if (m 294 2) = nI p then _ else _) = _ ∧ _
    rw [g1]
    generalize dvl t p (spn (isBt t 48 57) p 3) = v at *
    generalize spn (isBt t 48 57) p 3 = k at *
    by_cases z : k = 0
    · rw [if_pos (by rw [z]; rfl), if_pos (Or.inl z), if_pos (Or.inl z)]
      exact ⟨_, rfl, sto_eq, fun j hj => by rw [sto_nj hj]; exact g2 j hj, fun q hq => by rw [sto_ne hq]; exact g3 q hq⟩
    rw [if_neg (fun y => z (by have := (nI_eq (by omega) (by omega)).mp y; omega)), within_ok, cl_s]
    have hr : (nI a ≤ nI v ∧ nI v ≤ nI b) ↔ (a ≤ v ∧ v ≤ b) := by rw [nI_leI ha (by omega), nI_leI (by omega) hb]
    by_cases y : a ≤ v ∧ v ≤ b
    · rw [if_pos (hr.mpr y), if_neg (by decide), if_neg (show ¬ (k = 0 ∨ ¬ (a ≤ v ∧ v ≤ b)) by simp [z, y]), if_neg (show ¬ (k = 0 ∨ ¬ (a ≤ v ∧ v ≤ b)) by simp [z, y])]
      exact ⟨m, rfl, g1, g2, g3⟩
    · rw [if_neg (fun w => y (hr.mp w)), if_pos rfl, if_pos (Or.inr y), if_pos (Or.inr y)]
      exact ⟨_, rfl, sto_eq, fun j hj => by rw [sto_nj hj]; exact g2 j hj, fun q hq => by rw [sto_ne hq]; exact g3 q hq⟩
  refine loopA (fX7_number_L11 kk (nI a) (nI b) (nI p)) (fX7_number_L11_b kk (nI a) (nI b) (nI p)) (fun _ _ _ _ => rfl) 3
    (fun k m x => x = nI (dvl t p k) ∧ m 294 2 = nI (p + k) ∧ Fp4 σ m ∧ (∀ q, q ≠ 294 → m q = σ q) ∧ spn (isBt t 48 57) p 3 = k + spn (isBt t 48 57) (p + k) (3 - k))
    (fun r => ∃ σ', r = some (if spn (isBt t 48 57) p 3 = 0 ∨ ¬ (a ≤ dvl t p (spn (isBt t 48 57) p 3) ∧ dvl t p (spn (isBt t 48 57) p 3) ≤ b) then -1 else nI (dvl t p (spn (isBt t 48 57) p 3)), σ') ∧ σ' 294 2 = nI (if spn (isBt t 48 57) p 3 = 0 ∨ ¬ (a ≤ dvl t p (spn (isBt t 48 57) p 3) ∧ dvl t p (spn (isBt t 48 57) p 3) ≤ b) then p else p + spn (isBt t 48 57) p 3) ∧ Fp4 σ σ' ∧ ∀ q, q ≠ 294 → σ' q = σ q) ?_ ?_ 5000 0 σ 0 (by omega) (by omega) ⟨rfl, h2, fun _ _ => rfl, fun _ _ => rfl, by rw [Nat.zero_add]; rfl⟩
  · rintro m x rec ⟨rfl, g1, g2, g3, e⟩
    unfold fX7_number_L11_b
    rw [if_neg (by decide)]
    have e' : spn (isBt t 48 57) p 3 = 3 := e
    rw [← e'] at g1
    have := fin m g1 g2 g3
    rw [e'] at this ⊢
    exact this
  · rintro k m x rec hk ⟨rfl, g1, g2, g3, e⟩
    unfold fX7_number_L11_b
    have hm : CTp m t := by unfold CTp; rw [g3 281 (by decide), g3 282 (by decide)]; exact hT
    rw [if_pos (show nI k < 3 from nI_lt (b := 3) hk (by decide)), g1, cat_ok hm ht (by omega), cl_s, cdig ht, cl_s, g1, cat_ok hm ht (by omega), cl_s]
    simp only [lt_e]
    rw [spn_s (q := isBt t 48 57) (i := p + k) hk] at e
    by_cases z : isBt t 48 57 (p + k) = true
    · right
      rw [if_pos z] at e
      rw [if_pos z, if_neg (by decide), dig_step ht z, g1, nI_1, nI_1]
      exact ⟨_, _, ⟨rfl, sto_eq, fun j hj => by rw [sto_nj hj]; exact g2 j hj, fun q hq => by rw [sto_ne hq]; exact g3 q hq, by rw [e, show p + (k + 1) = p + k + 1 by omega]; omega⟩, rfl⟩
    · left
      rw [if_neg z] at e
      have e' : spn (isBt t 48 57) p 3 = k := by omega
      rw [if_neg z, if_pos rfl]
      rw [← e'] at g1
      have := fin m g1 g2 g3
      rw [e'] at this ⊢
      exact this
abbrev FrR (k0 : Nat) (σ σ' : Mem) : Prop := Fp4 σ σ' ∧ (∀ q, q ≠ 294 → q ≠ k0 → q ≠ k0 + 3 → q ≠ k0 + 4 → q ≠ k0 + 5 → σ' q = σ q) ∧ ∀ j, j ≠ 10 → σ' k0 j = σ k0 j
def CRl (σ : Mem) (k0 r : Nat) (rl : Rl) : Prop := σ k0 10 = nI r ∧ ∀ i, i < r → σ (k0 + 3) i = nI (rl i).1 ∧ σ (k0 + 4) i = nI (rl i).2.1 ∧ σ (k0 + 5) i = nI (rl i).2.2
theorem addRule_ok {σ : Mem} {k0 r : Nat} {rl : Rl} (hr : r < 3) (h : CRl σ k0 r rl) (hk : k0 + 5 < 290) (s l v : Nat) :
    ∃ σ', fX3_addRule k0 σ (nI l) (nI s) (nI v) = some ((), σ') ∧ FrR k0 σ σ' ∧ σ' 294 = σ 294 ∧ CRl σ' k0 (r + 1) (fun i => if i = r then (s, l, v) else rl i) := by
  obtain ⟨h10, hru⟩ := h
  have e1 : k0 ≠ k0 + 4 := by omega
  have e2 : k0 ≠ k0 + 3 := by omega
  have e3 : k0 ≠ k0 + 5 := by omega
  have hi := inb_nI hr (show 3 < 2 ^ 31 by decide)
  unfold fX3_addRule
  simp only [lt_e]
  rw [h10, if_pos (show nI r < 3 from nI_lt (b := 3) hr (by decide)), ck_t hi, ix_nI (by omega), sto_ne e1, h10, ck_t hi, ix_nI (by omega), sto_ne e2, sto_ne e1, h10, ck_t hi, ix_nI (by omega), sto_ne e3, sto_ne e2, sto_ne e1, h10, nI_1]
  refine ⟨_, rfl, ⟨fun j hj => by rw [sto_ne (by omega), sto_ne (by omega), sto_ne (by omega), sto_ne (by omega)], fun q _ a b c d => by rw [sto_ne a, sto_ne d, sto_ne b, sto_ne c], fun j hj => by rw [sto_nj hj, sto_ne e3, sto_ne e2, sto_ne e1]⟩, by rw [sto_ne (by omega), sto_ne (by omega), sto_ne (by omega), sto_ne (by omega)], sto_eq, fun i hi => ?_⟩
  by_cases z : i = r
  · subst z
    simp only [if_true]
    exact ⟨by rw [sto_ne (by omega), sto_ne (by omega), sto_eq], by rw [sto_ne (by omega), sto_ne (by omega), sto_ne (by omega), sto_eq], by rw [sto_ne (by omega), sto_eq]⟩
  · simp only [z, if_false]
    have := hru i (by omega)
    exact ⟨by rw [sto_ne (by omega), sto_ne (by omega), sto_nj z, sto_ne (by omega)]; exact this.1, by rw [sto_ne (by omega), sto_ne (by omega), sto_ne (by omega), sto_nj z]; exact this.2.1, by rw [sto_ne (by omega), sto_nj z, sto_ne (by omega), sto_ne (by omega)]; exact this.2.2⟩
