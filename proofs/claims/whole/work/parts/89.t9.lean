/-! ===== texts: the reference's patterns, letters and numbers ===== -/
def pPk (t : Tp) (p k : Nat) : Nat → Nat := fun b => if 12 ≤ b + k then pP t p b else 0
theorem sgn_not : ∀ l, l < 8 → sgn l ≠ 48 ∧ sgn l ≠ 49 ∧ sgn l ≠ 46 ∧ sgn l ≠ 0 ∧ sgn l < 256 := by decide
theorem pPk_fp {t : Tp} {p k l : Nat} (hl : l < 8) : fp (pPk t p k) l = fpk (pP t p) k l := by
  funext b
  unfold fp fpk pPk fp
  by_cases z : 12 ≤ b + k
  · rw [if_pos z]; simp [z]
  · rw [if_neg z]
    have := (sgn_not l hl).2.2.2.1
    have h2 : ¬ 0 = sgn l := fun y => this y.symm
    simp [z, h2]
abbrev RPk (m : Mem) (t : Tp) (c p k : Nat) : Prop := ∀ x, x < 12 → m 366 (12 * c + x) = if x < k then nI (t.2 (p + x)) else 0
theorem RPk.pat {m : Mem} {t : Tp} (ht : Tok t) {c p k : Nat} (hc : c < 12) (h : RPk m t c p k) (ha : ∀ j, j < k → sgOk t p j = true) : RPat m c (pPk t p k) := by
  refine ⟨hc, fun b hb => ?_⟩
  rw [show 12 * c + 11 - b = 12 * c + (11 - b) by omega, h (11 - b) (by omega)]
  unfold pPk
  by_cases z : 12 ≤ b + k
  · rw [if_pos (by omega), if_pos z]
    exact ⟨rfl, ht.2 _ (sgOk_lt (ha (11 - b) (by omega)))⟩
  · rw [if_neg (by omega), if_neg z]
    exact ⟨rfl, by omega⟩
theorem rpatStep {m : Mem} {t : Tp} (hT : RTp m t) (ht : Tok t) {c p k : Nat} (hc : c < 12) (hk : k < 12) (hp : p < 1000) (h : RPk m t c p k) (ha : ∀ j, j < k → sgOk t p j = true) (h27 : m 362 27 = nI (p + k)) (h30 : m 362 30 = -1) (k111 k148 : Mem → Option (Unit × Mem)) (rec : Mem → Int32 → Option (Unit × Mem)) :
    fX11_readsPattern_L28_b k111 k148 (nI c) rec m (nI k) = if sgOk t p k = true then rec (sto (sto m 366 (12 * c + k) (bA t (p + k))) 362 27 (nI (p + k + 1))) (nI (k + 1)) else k111 m := by
  unfold fX11_readsPattern_L28_b
  rw [if_pos (show nI k < 12 from nI_lt (b := 12) hk (by decide)), h30, if_pos (show (-1 : Int32) < 0 by decide), h27, rat_ok hT ht (by omega), cl_s, rletA m ht, cl_s]
  simp only [lt_e, e12k]
  rw [ck_t (inb_nI (show 12 * c + k < 144 by omega) (by decide)), ix_nI (by omega), sto_ne (show 362 ≠ 366 by decide), h27, nI_1, nI_1]
  have e48 := bA_eq ht (c := 48) (by decide) (p + k)
  have e49 := bA_eq ht (c := 49) (by decide) (p + k)
  have e46 := bA_eq ht (c := 46) (by decide) (p + k)
  rw [show nI 48 = (48 : Int32) from rfl] at e48
  rw [show nI 49 = (49 : Int32) from rfl] at e49
  rw [show nI 46 = (46 : Int32) from rfl] at e46
  cases hl : lofA t (p + k) with
  | some l =>
    obtain ⟨h8, hlt, hs⟩ := lofA_8 hl
    have hsn := sgn_not l h8
    have n48 : ¬ isC t 48 (p + k) = true := fun z => hsn.1 (by rw [← hs]; exact (isC_lt z).2)
    have n49 : ¬ isC t 49 (p + k) = true := fun z => hsn.2.1 (by rw [← hs]; exact (isC_lt z).2)
    have n46 : ¬ isC t 46 (p + k) = true := fun z => hsn.2.2.1 (by rw [← hs]; exact (isC_lt z).2)
    have hlo : lof (t.2 (p + k)) = some l := by unfold lofA at hl; rw [if_pos hlt] at hl; exact hl
    rw [if_neg (fun y => n48 (e48.mp y)), if_neg (fun y => n49 (e49.mp y)), if_neg (fun y => n46 (e46.mp y)), show ansO (some l) = nI l from rfl, if_neg (nI_pos (show l < 2 ^ 31 by omega)), if_neg (nI_pos (show l < 2 ^ 31 by omega)), if_neg (show ¬ ((1 : Int32) = 0) by decide), bitsOf_ok (h.pat ht hc ha) h8, cl_s, size_ok, cl_s, cnt_mkS _ (by decide), pPk_fp h8]
    have h9 := sgOk_cnt (t := t) (p := p) h8 k (by omega) ha
    by_cases z : cnt (fpk (pP t p) k l) 12 < 8
    · rw [if_neg (show ¬ nI (cnt (fpk (pP t p) k l) 12) = 8 from fun y => absurd ((nI_eq (b := 8) (by omega) (by decide)).mp y) (by omega)), ck_t (inb_nI (show 12 * c + k < 144 by omega) (by decide)), sto_ne (show 362 ≠ 366 by decide), h27, nI_1, if_pos (show sgOk t p k = true by unfold sgOk; rw [hlo]; simp [sgM, hlt, z])]
    · rw [if_pos (show nI (cnt (fpk (pP t p) k l) 12) = 8 by rw [show cnt (fpk (pP t p) k l) 12 = 8 by omega]; rfl), if_neg (show ¬ sgOk t p k = true by unfold sgOk; rw [hlo]; simp [sgM, z])]
  | none =>
    rw [show ansO none = -1 from rfl]
    simp only [if_pos (show (-1 : Int32) < 0 by decide), if_neg (show ¬ ((1 : Int32) = 0) by decide), if_true]
    have hlo : p + k < t.1 → lof (t.2 (p + k)) = none := fun y => by unfold lofA at hl; rw [if_pos y] at hl; exact hl
    have yes : ∀ d, isC t d (p + k) = true → d = 48 ∨ d = 49 ∨ d = 46 → sgOk t p k = true := fun d hd h3 => by
      have hx := isC_lt hd
      unfold sgOk
      rw [hlo hx.1, hx.2]
      rcases h3 with e | e | e <;> subst e <;> simp [sgM, hx.1]
    by_cases z48 : isC t 48 (p + k) = true
    · rw [if_pos (e48.mpr z48), if_pos (yes 48 z48 (by simp))]
    rw [if_neg (fun y => z48 (e48.mp y))]
    by_cases z49 : isC t 49 (p + k) = true
    · rw [if_pos (e49.mpr z49), if_pos (yes 49 z49 (by simp))]
    rw [if_neg (fun y => z49 (e49.mp y))]
    by_cases z46 : isC t 46 (p + k) = true
    · rw [if_pos (e46.mpr z46), if_pos (yes 46 z46 (by simp))]
    rw [if_neg (fun y => z46 (e46.mp y)), if_neg]
    intro y
    have hlt := sgOk_lt y
    unfold sgOk at y
    rw [hlo hlt] at y
    simp only [sgM, Bool.and_eq_true, Bool.or_eq_true, beq_iff_eq] at y
    unfold isC at z48 z49 z46
    simp only [hlt, decide_true, Bool.true_and, decide_eq_true_eq] at z48 z49 z46
    rcases y.2 with a | a | a
    · exact z48 a
    · exact z49 a
    · exact z46 a
abbrev FrQ (c : Nat) (σ σ' : Mem) : Prop := (∀ q, q ≠ 362 → q ≠ 366 → σ' q = σ q) ∧ (∀ j, j ≠ 27 → j ≠ 30 → σ' 362 j = σ 362 j) ∧ ∀ j, j < 12 * c → σ' 366 j = σ 366 j
theorem rpattern_ok {σ : Mem} {t : Tp} (hT : RTp σ t) (ht : Tok t) {c : Nat} (hc : c < 12) {p : Nat} (hp : p < 1000) (h27 : σ 362 27 = nI p) (h30 : σ 362 30 = -1) :
    ∃ σ', fX11_readsPattern σ (nI c) = some ((), σ') ∧ FrQ c σ σ' ∧ (spn (sgOk t p) 0 12 < 12 → σ' 362 30 = nI (p + spn (sgOk t p) 0 12)) ∧ (¬ spn (sgOk t p) 0 12 < 12 → σ' 362 30 = -1 ∧ σ' 362 27 = nI (p + 12) ∧ RPat σ' c (pP t p)) := by
  unfold fX11_readsPattern
  obtain ⟨m0, a1, a2, a3, a4⟩ := patZero hc σ (fun (m5 : Mem) =>
      fX11_readsPattern_L28
        (fun (m10 : Mem) =>
          cl (fX11_wrongAt m10 (m10 362 27)) <| fun _ m11 =>
          some ((), m11))
        (fun (m13 : Mem) =>
          some ((), m13))
        (nI c) 5000 m5 (0 : Int32))
  rw [a1]
  generalize hk1 : (fun (m10 : Mem) => cl (fX11_wrongAt m10 (m10 362 27)) <| fun _ m11 => some ((), m11)) = k111
  refine loopM (fX11_readsPattern_L28 k111 (fun (m13 : Mem) => some ((), m13)) (nI c)) (fX11_readsPattern_L28_b k111 (fun (m13 : Mem) => some ((), m13)) (nI c)) (fun _ _ _ => rfl) 12
    (fun k m => m 362 27 = nI (p + k) ∧ m 362 30 = -1 ∧ FrQ c σ m ∧ RPk m t c p k ∧ (∀ j, j < k → sgOk t p j = true) ∧ spn (sgOk t p) 0 12 = k + spn (sgOk t p) k (12 - k))
    (fun r => ∃ σ', r = some ((), σ') ∧ FrQ c σ σ' ∧ (spn (sgOk t p) 0 12 < 12 → σ' 362 30 = nI (p + spn (sgOk t p) 0 12)) ∧ (¬ spn (sgOk t p) 0 12 < 12 → σ' 362 30 = -1 ∧ σ' 362 27 = nI (p + 12) ∧ RPat σ' c (pP t p))) ?_ ?_ 5000 0 m0 (by omega) (by omega) ⟨by rw [a2 362 (by decide)]; exact h27, by rw [a2 362 (by decide)]; exact h30, ⟨fun q a b => a2 q b, fun j _ _ => by rw [a2 362 (by decide)], a3⟩, fun x hx => by rw [if_neg (by omega)]; exact a4 x hx, fun j hj => by omega, by rw [Nat.zero_add]⟩
  · rintro m rec ⟨g1, g2, g3, g4, g5, e⟩
    unfold fX11_readsPattern_L28_b
    rw [if_neg (show ¬ nI 12 < 12 by decide)]
    have e' : spn (sgOk t p) 0 12 = 12 := e
    refine ⟨m, rfl, g3, fun y => by omega, fun _ => ⟨g2, g1, ?_⟩⟩
    have := g4.pat ht hc g5
    have he : pPk t p 12 = pP t p := by
      funext b
      unfold pPk
      rw [if_pos (by omega)]
    rw [he] at this
    exact this
  · rintro k m rec hk ⟨g1, g2, g3, g4, g5, e⟩
    have hm : RTp m t := by unfold RTp; rw [g3.2.1 28 (by decide) (by decide), g3.1 373 (by decide) (by decide)]; exact hT
    rw [rpatStep hm ht hc hk hp g4 g5 g1 g2]
    rw [spn_s (q := sgOk t p) (i := k) hk] at e
    by_cases z : sgOk t p k = true
    · right
      rw [if_pos z] at e
      rw [if_pos z]
      have hb : bA t (p + k) = nI (t.2 (p + k)) := by unfold bA; rw [if_pos (sgOk_lt z)]
      refine ⟨_, ⟨sto_eq, by rw [sto_nj (by decide), sto_ne (by decide)]; exact g2, ⟨fun q a b => by rw [sto_ne a, sto_ne b]; exact g3.1 q a b, fun j a b => by rw [sto_nj a, sto_ne (by decide)]; exact g3.2.1 j a b, fun j hj => by rw [sto_ne (by decide), sto_nj (by omega)]; exact g3.2.2 j hj⟩, fun x hx => ?_, fun j hj => ?_, by omega⟩, rfl⟩
      · rw [sto_ne (by decide)]
        by_cases y : x = k
        · subst y; rw [sto_eq, if_pos (by omega), hb]
        · rw [sto_nj (by omega), g4 x hx]
          have : (x < k) ↔ (x < k + 1) := by omega
          simp only [this]
      · by_cases y : j = k
        · subst y; exact z
        · exact g5 j (by omega)
    · left
      rw [if_neg z] at e
      have e' : spn (sgOk t p) 0 12 = k := by omega
      rw [if_neg z, ← hk1]
      show ∃ σ', cl (fX11_wrongAt m (m 362 27)) _ = _ ∧ _
      rw [wrongAt_ok g2, cl_s, g1, e']
      exact ⟨_, rfl, ⟨fun q a b => by rw [sto_ne a]; exact g3.1 q a b, fun j a b => by rw [sto_nj b]; exact g3.2.1 j a b, fun j hj => by rw [sto_ne (by decide)]; exact g3.2.2 j hj⟩, fun _ => sto_eq, fun y => absurd hk y⟩
theorem rletter_ok {σ : Mem} {t : Tp} (hT : RTp σ t) (ht : Tok t) {c : Nat} {P : Nat → Nat} (hP : RPat σ c P) {p : Nat} (hp : p < 1000) (h27 : σ 362 27 = nI p) (h30 : σ 362 30 = -1) :
    fX11_readsRuleLetter σ (nI c) = some (if lyes P (lofA t p) = true then (ansO (lofA t p), sto σ 362 27 (nI (p + 1))) else (0, sto σ 362 30 (nI p))) := by
  unfold fX11_readsRuleLetter
  simp only [lt_e]
  rw [h27, rat_ok hT ht (by omega), cl_s, rletA σ ht, cl_s, wrongAt_ok h30, cl_s]
  cases hl : lofA t p with
  | none =>
    rw [if_pos (show ansO none < 0 by decide), if_neg (show ¬ lyes P none = true from fun z => by cases z), h27]
  | some l =>
    have h8 := (lofA_8 hl).1
    rw [show ansO (some l) = nI l from rfl, if_neg (nI_pos (show l < 2 ^ 31 by omega)), bitsOf_ok hP h8, cl_s, h27, wrongAt_ok h30, cl_s, nI_1]
    have hz : mkS (fp P l) 12 = 0 ↔ ¬ 0 < cnt (fp P l) 12 := by
      rw [cnt_pos, eq0_bt]
      constructor
      · rintro h ⟨b, hb, hf⟩
        have := h b (by omega)
        rw [bt_mkS _ (by decide)] at this
        simp [hb, hf] at this
      · intro h j _
        rw [bt_mkS _ (by decide)]
        by_cases e : j < 12
        · cases hf : fp P l j with
          | false => simp
          | true => exact absurd ⟨j, e, hf⟩ h
        · simp [e]
    by_cases z : 0 < cnt (fp P l) 12
    · rw [if_neg (fun y => (hz.mp y) z), if_pos (show lyes P (some l) = true from decide_eq_true z)]
    · rw [if_pos (hz.mpr z), if_neg (show ¬ lyes P (some l) = true from fun y => z (of_decide_eq_true y))]
theorem rnumT_ok {σ : Mem} {t : Tp} (hT : RTp σ t) (ht : Tok t) {p : Nat} (hp : p < 1000) (h27 : σ 362 27 = nI p) (h30 : σ 362 30 = -1) {a b : Nat} (ha : a < 2 ^ 31) (hb : b < 2 ^ 31) :
    ∃ σ', fX11_readsNumber σ (nI a) (nI b) = some (nI (dvl t p (spn (isBt t 48 57) p 3)), σ') ∧ Fr σ σ' ∧ ((spn (isBt t 48 57) p 3 = 0 ∨ ¬ (a ≤ dvl t p (spn (isBt t 48 57) p 3) ∧ dvl t p (spn (isBt t 48 57) p 3) ≤ b)) → σ' 362 30 = nI p) ∧ (¬ (spn (isBt t 48 57) p 3 = 0 ∨ ¬ (a ≤ dvl t p (spn (isBt t 48 57) p 3) ∧ dvl t p (spn (isBt t 48 57) p 3) ≤ b)) → σ' 362 30 = -1 ∧ σ' 362 27 = nI (p + spn (isBt t 48 57) p 3)) := by
  have hk3 := spn_le (isBt t 48 57) 3 p
  have hv := dvl_lt (t := t) (p := p) (spn (isBt t 48 57) p 3) (fun j hj => spn_all (i := p) (c := 3) (by omega) (by omega))
  have h10 : dvl t p (spn (isBt t 48 57) p 3) < 1000 := Nat.lt_of_lt_of_le hv (Nat.pow_le_pow_right (n := 10) (by decide) hk3)
  unfold fX11_readsNumber
  rw [lt_e, h27]
  generalize hkk : (fun (m9 : Mem) (x10 : Int32) => lt (fun (m11 : Mem) => cl (fX11_wrongAt m11 (nI p)) <| fun _ m12 => some (x10, m12)) <| fun j85 => if (m9 362 27) = nI p then j85 m9 else cl (fX11_isIn m9 ((x10).toInt64) ((nI a).toInt64) ((nI b).toInt64)) <| fun r14 m13 => if r14 = (0 : Int32) then j85 m13 else some (x10, m13)) = kk
  have fin : ∀ m, m 362 27 = nI (p + spn (isBt t 48 57) p 3) → m 362 30 = -1 → Fr σ m → ∃ σ', kk m (nI (dvl t p (spn (isBt t 48 57) p 3))) = some (nI (dvl t p (spn (isBt t 48 57) p 3)), σ') ∧ Fr σ σ' ∧ ((spn (isBt t 48 57) p 3 = 0 ∨ ¬ (a ≤ dvl t p (spn (isBt t 48 57) p 3) ∧ dvl t p (spn (isBt t 48 57) p 3) ≤ b)) → σ' 362 30 = nI p) ∧ (¬ (spn (isBt t 48 57) p 3 = 0 ∨ ¬ (a ≤ dvl t p (spn (isBt t 48 57) p 3) ∧ dvl t p (spn (isBt t 48 57) p 3) ≤ b)) → σ' 362 30 = -1 ∧ σ' 362 27 = nI (p + spn (isBt t 48 57) p 3)) := by
    intro m g1 g2 g3
    rw [← hkk]
    generalize dvl t p (spn (isBt t 48 57) p 3) = v at *
    generalize spn (isBt t 48 57) p 3 = k at *
    have wf : Fr σ (sto m 362 30 (nI p)) := ⟨fun q a => by rw [sto_ne a]; exact g3.1 q a, fun j a b => by rw [sto_nj b]; exact g3.2 j a b⟩
    show ∃ σ', (if (m 362 27) = nI p then cl (fX11_wrongAt m (nI p)) _ else _) = _ ∧ _
    rw [g1]
    by_cases z : k = 0
    · rw [if_pos (by rw [z]; rfl), wrongAt_ok g2, cl_s]
      exact ⟨_, rfl, wf, fun _ => sto_eq, fun y => absurd (Or.inl z) y⟩
    rw [if_neg (fun y => z (by have := (nI_eq (by omega) (by omega)).mp y; omega)), isInI m (nI v) _ _ (nI a) (nI b) rfl rfl, cl_s]
    have hr : (nI a ≤ nI v ∧ nI v ≤ nI b) ↔ (a ≤ v ∧ v ≤ b) := by rw [nI_leI ha (by omega), nI_leI (by omega) hb]
    by_cases y : a ≤ v ∧ v ≤ b
    · rw [if_pos (hr.mpr y), if_neg (by decide)]
      exact ⟨m, rfl, g3, fun w => by rcases w with w | w; exact absurd w z; exact absurd y w, fun _ => ⟨g2, g1⟩⟩
    · rw [if_neg (fun w => y (hr.mp w)), if_pos rfl]
      show ∃ σ', cl (fX11_wrongAt m (nI p)) _ = _ ∧ _
      rw [wrongAt_ok g2, cl_s]
      exact ⟨_, rfl, wf, fun _ => sto_eq, fun w => absurd (Or.inr y) w⟩
  refine loop0T (fX11_readsNumber_L8 kk (nI a) (nI b) (nI p)) (fX11_readsNumber_L8_b kk (nI a) (nI b) (nI p)) (fun _ _ _ => rfl) 3
    (fun k m x => x = nI (dvl t p k) ∧ m 362 27 = nI (p + k) ∧ m 362 30 = -1 ∧ Fr σ m ∧ spn (isBt t 48 57) p 3 = k + spn (isBt t 48 57) (p + k) (3 - k))
    (fun r => ∃ σ', r = some (nI (dvl t p (spn (isBt t 48 57) p 3)), σ') ∧ Fr σ σ' ∧ ((spn (isBt t 48 57) p 3 = 0 ∨ ¬ (a ≤ dvl t p (spn (isBt t 48 57) p 3) ∧ dvl t p (spn (isBt t 48 57) p 3) ≤ b)) → σ' 362 30 = nI p) ∧ (¬ (spn (isBt t 48 57) p 3 = 0 ∨ ¬ (a ≤ dvl t p (spn (isBt t 48 57) p 3) ∧ dvl t p (spn (isBt t 48 57) p 3) ≤ b)) → σ' 362 30 = -1 ∧ σ' 362 27 = nI (p + spn (isBt t 48 57) p 3))) ?_ ?_ 5000 0 σ 0 (by omega) (by omega) ⟨rfl, h27, h30, ⟨fun _ _ => rfl, fun _ _ _ => rfl⟩, by rw [Nat.zero_add]; rfl⟩
  · rintro m x rec ⟨rfl, g1, g2, g3, e⟩
    unfold fX11_readsNumber_L8_b
    rw [g1, show (3 : Int32) = nI 3 from rfl, nI_add, if_neg (nI_nlt (Nat.le_refl _) (by omega))]
    have e' : spn (isBt t 48 57) p 3 = 3 := e
    rw [← e'] at g1
    have := fin m g1 g2 g3
    rw [e'] at this ⊢
    exact this
  · rintro k m x rec hk ⟨rfl, g1, g2, g3, e⟩
    unfold fX11_readsNumber_L8_b
    have hm : RTp m t := by unfold RTp; rw [g3.2 28 (by decide) (by decide), g3.1 373 (by decide)]; exact hT
    rw [g1, show (3 : Int32) = nI 3 from rfl, nI_add, if_pos (nI_lt (by omega) (by omega)), rat_ok hm ht (by omega), cl_s, rdigT ht, cl_s, g1, rat_ok hm ht (by omega), cl_s]
    simp only [lt_e]
    rw [spn_s (q := isBt t 48 57) (i := p + k) hk] at e
    by_cases z : isBt t 48 57 (p + k) = true
    · right
      rw [if_pos z] at e
      rw [if_pos z, if_neg (by decide), dig_step ht z, g1, nI_1]
      exact ⟨_, _, ⟨rfl, sto_eq, by rw [sto_nj (by decide)]; exact g2, ⟨fun q hq => by rw [sto_ne hq]; exact g3.1 q hq, fun j a b => by rw [sto_nj a]; exact g3.2 j a b⟩, by rw [e, show p + (k + 1) = p + k + 1 by omega]; omega⟩, rfl⟩
    · left
      rw [if_neg z] at e
      have e' : spn (isBt t 48 57) p 3 = k := by omega
      rw [if_neg z, if_pos rfl]
      rw [← e'] at g1
      have := fin m g1 g2 g3
      rw [e'] at this ⊢
      exact this
