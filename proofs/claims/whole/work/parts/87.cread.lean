/-! ===== read: the class ===== -/
def nbB (t : Tp) (p : Nat) : Nat := if isC t 45 p = true then 1 else 0
def nbK (t : Tp) (p : Nat) : Nat := spn (isBt t 48 57) (p + nbB t p) 3
def nbV (t : Tp) (p : Nat) : Int32 := if isC t 45 p = true then -nI (dvl t (p + nbB t p) (nbK t p)) else nI (dvl t (p + nbB t p) (nbK t p))
def nbP (f : Fm) (l : Nat) (t : Tp) (p : Nat) (w : Int32) : Nat ⊕ (Nat × Int32) :=
  if nbK t p = 0 then .inl (p + nbB t p) else if canP (cnt (fl f l) 12) (decide (3 < l)) (nbV t p) = true then .inr (p + nbB t p + nbK t p, laP (fl f l) w (nbV t p)) else .inl p
def nbsP (f : Fm) (t : Tp) : Nat → Nat → Nat → Int32 → Nat ⊕ (Nat × Int32)
  | 0, _, p, w => .inr (p, w)
  | c + 1, i, p, w => if isC t 32 p = true then (match nbP f ((lts f).getD i 0) t (p + 1) w with
    | .inl e => .inl e
    | .inr x => nbsP f t c (i + 1) x.1 x.2) else .inl p
theorem nbB_le (t : Tp) (p : Nat) : nbB t p ≤ 1 := by unfold nbB; split <;> omega
theorem nbK_le (t : Tp) (p : Nat) : nbK t p ≤ 3 := spn_le _ _ _
theorem nbP_r {f : Fm} {l : Nat} {t : Tp} {p : Nat} {w : Int32} {x : Nat × Int32} (h : nbP f l t p w = .inr x) : x.1 ≤ p + 4 ∧ isW x.2 := by
  unfold nbP at h
  have h1 := nbB_le t p
  have h2 := nbK_le t p
  split at h
  · cases h
  · split at h
    · cases h
      exact ⟨by show p + nbB t p + nbK t p ≤ p + 4; omega, isW_laP _ _ _⟩
    · cases h
theorem nbP_l {f : Fm} {l : Nat} {t : Tp} {p : Nat} {w : Int32} {e : Nat} (h : nbP f l t p w = .inl e) : e ≤ p + 1 := by
  unfold nbP at h
  have h1 := nbB_le t p
  split at h
  · cases h; omega
  · split at h
    · cases h
    · cases h; omega
theorem spn30 {q : Nat → Bool} {i : Nat} : spn q i 3 = 0 ↔ ¬ q i = true := by
  rw [show (3 : Nat) = 2 + 1 from rfl, spn]
  by_cases e : q i = true
  · rw [if_pos e]; simp [e]
  · rw [if_neg e]; simp [e]
theorem number_ok {σ : Mem} {t : Tp} (h : CTp σ t) (ht : Tok t) {f : Fm} {l k0 : Nat} (hf : CField σ k0 (fl f l) (decide (3 < l))) (hl : 0 < cnt (fl f l) 12) (hk : k0 + 1 < 290) {p : Nat} (hp : p < 1000) {w : Int32} (hw : isW w) (h3 : σ 295 3 = nI p) (h4 : σ 295 4 = w) :
    ∃ σ', (∀ q, q ≠ 295 → σ' q = σ q) ∧ ((∃ e, nbP f l t p w = .inl e ∧ fX5_number σ k0 = some (0, σ') ∧ σ' 295 3 = nI e) ∨ (∃ x, nbP f l t p w = .inr x ∧ fX5_number σ k0 = some (1, σ') ∧ σ' 295 3 = nI x.1 ∧ σ' 295 4 = x.2)) := by
  have hb := nbB_le t p
  have hkk := nbK_le t p
  unfold fX5_number
  simp only [lt_e]
  rw [h3, cat_ok h ht (by omega), cl_s]
  -- behind the sign
  have core : ∀ (m : Mem) (v4 : Int32), (∀ q, q ≠ 295 → m q = σ q) → m 295 3 = nI (p + nbB t p) → m 295 4 = w → (v4 = 0 ↔ ¬ isC t 45 p = true) →
      ∃ σ', (∀ q, q ≠ 295 → σ' q = σ q) ∧ ((∃ e, nbP f l t p w = .inl e ∧ (cl (fX0_at 281 m (m 295 3)) fun r7 m6 => cl (fX10_isDigit m6 r7) fun r9 m8 => if r9 = (0 : Int32) then some ((0 : Int32), m8) else fX5_number_L66 (fun (m18 : Mem) (x19 : Int32) => if v4 = (0 : Int32) then (cl (fX2_canHold k0 m18 x19) fun r22 m21 => if r22 = (0 : Int32) then some ((0 : Int32), sto m21 295 3 (nI p)) else cl (fX2_putInto k0 m21 (m21 295 4) x19) fun r25 m24 => some ((1 : Int32), sto m24 295 4 r25)) else (cl (fX2_canHold k0 m18 (-x19)) fun r22 m21 => if r22 = (0 : Int32) then some ((0 : Int32), sto m21 295 3 (nI p)) else cl (fX2_putInto k0 m21 (m21 295 4) (-x19)) fun r25 m24 => some ((1 : Int32), sto m24 295 4 r25))) k0 (nI p) v4 5000 m8 (0 : Int32) (0 : Int32)) = some (0, σ') ∧ σ' 295 3 = nI e) ∨ (∃ x, nbP f l t p w = .inr x ∧ (cl (fX0_at 281 m (m 295 3)) fun r7 m6 => cl (fX10_isDigit m6 r7) fun r9 m8 => if r9 = (0 : Int32) then some ((0 : Int32), m8) else fX5_number_L66 (fun (m18 : Mem) (x19 : Int32) => if v4 = (0 : Int32) then (cl (fX2_canHold k0 m18 x19) fun r22 m21 => if r22 = (0 : Int32) then some ((0 : Int32), sto m21 295 3 (nI p)) else cl (fX2_putInto k0 m21 (m21 295 4) x19) fun r25 m24 => some ((1 : Int32), sto m24 295 4 r25)) else (cl (fX2_canHold k0 m18 (-x19)) fun r22 m21 => if r22 = (0 : Int32) then some ((0 : Int32), sto m21 295 3 (nI p)) else cl (fX2_putInto k0 m21 (m21 295 4) (-x19)) fun r25 m24 => some ((1 : Int32), sto m24 295 4 r25))) k0 (nI p) v4 5000 m8 (0 : Int32) (0 : Int32)) = some (1, σ') ∧ σ' 295 3 = nI x.1 ∧ σ' 295 4 = x.2)) := by
    intro m v4 g1 g2 g3 g4
    have hm : CTp m t := by unfold CTp; rw [g1 281 (by decide), g1 282 (by decide)]; exact h
    rw [g2, cat_ok hm ht (by omega), cl_s, cdig ht, cl_s]
    by_cases z : isBt t 48 57 (p + nbB t p) = true
    case neg =>
      have hK : nbK t p = 0 := spn30.mpr z
      rw [if_neg z, if_pos rfl]
      exact ⟨m, g1, Or.inl ⟨p + nbB t p, by unfold nbP; rw [if_pos hK], rfl, g2⟩⟩
    rw [if_pos z, if_neg (by decide)]
    have hK : ¬ nbK t p = 0 := fun y => spn30.mp y z
    obtain ⟨m1, c1, c2, c3, c4⟩ := cdigs hm ht (p := p + nbB t p) (by omega) k0 (nI p) v4 g2 (fun (m18 : Mem) (x19 : Int32) => if v4 = (0 : Int32) then (cl (fX2_canHold k0 m18 x19) fun r22 m21 => if r22 = (0 : Int32) then some ((0 : Int32), sto m21 295 3 (nI p)) else cl (fX2_putInto k0 m21 (m21 295 4) x19) fun r25 m24 => some ((1 : Int32), sto m24 295 4 r25)) else (cl (fX2_canHold k0 m18 (-x19)) fun r22 m21 => if r22 = (0 : Int32) then some ((0 : Int32), sto m21 295 3 (nI p)) else cl (fX2_putInto k0 m21 (m21 295 4) (-x19)) fun r25 m24 => some ((1 : Int32), sto m24 295 4 r25)))
    rw [show spn (isBt t 48 57) (p + nbB t p) 3 = nbK t p from rfl] at c1 c2
    have q1 : ∀ q, q ≠ 295 → m1 q = σ q := fun q hq => by rw [c4 q hq]; exact g1 q hq
    have hf1 : CField m1 k0 (fl f l) (decide (3 < l)) := hf.congr (q1 _ (by omega)) (q1 _ (by omega))
    have hw1 : m1 295 4 = w := by rw [c3 4 (by decide)]; exact g3
    have fin : ∀ v, v = nbV t p → ∃ σ', (∀ q, q ≠ 295 → σ' q = σ q) ∧ ((∃ e, nbP f l t p w = .inl e ∧ (cl (fX2_canHold k0 m1 v) fun r22 m21 => if r22 = (0 : Int32) then some ((0 : Int32), sto m21 295 3 (nI p)) else cl (fX2_putInto k0 m21 (m21 295 4) v) fun r25 m24 => some ((1 : Int32), sto m24 295 4 r25)) = some (0, σ') ∧ σ' 295 3 = nI e) ∨ (∃ x, nbP f l t p w = .inr x ∧ (cl (fX2_canHold k0 m1 v) fun r22 m21 => if r22 = (0 : Int32) then some ((0 : Int32), sto m21 295 3 (nI p)) else cl (fX2_putInto k0 m21 (m21 295 4) v) fun r25 m24 => some ((1 : Int32), sto m24 295 4 r25)) = some (1, σ') ∧ σ' 295 3 = nI x.1 ∧ σ' 295 4 = x.2)) := by
      rintro v rfl
      rw [canHold_ok hf1 hl, cl_s, hw1, putInto_ok hf1 _ _ hw, cl_s]
      by_cases y : canP (cnt (fl f l) 12) (decide (3 < l)) (nbV t p) = true
      · rw [if_pos y, if_neg (by decide)]
        exact ⟨_, fun q hq => by rw [sto_ne hq]; exact q1 q hq, Or.inr ⟨(p + nbB t p + nbK t p, laP (fl f l) w (nbV t p)), by unfold nbP; rw [if_neg hK, if_pos y], rfl, by rw [sto_nj (by decide)]; exact c2, sto_eq⟩⟩
      · rw [if_neg y, if_pos rfl]
        exact ⟨_, fun q hq => by rw [sto_ne hq]; exact q1 q hq, Or.inl ⟨p, by unfold nbP; rw [if_neg hK, if_neg y], rfl, sto_eq⟩⟩
    rw [c1]
    by_cases v0 : v4 = 0
    · rw [if_pos v0]
      exact fin _ (by unfold nbV; rw [if_neg (g4.mp v0)])
    · have hc : isC t 45 p = true := by
        cases hq : isC t 45 p with
        | true => rfl
        | false => exact absurd (g4.mpr (by rw [hq]; decide)) v0
      rw [if_neg v0]
      exact fin _ (by unfold nbV; rw [if_pos hc])
  have h45 := bA_eq ht (c := 45) (by decide) p
  rw [show nI 45 = (45 : Int32) from rfl] at h45
  by_cases c : isC t 45 p = true
  · rw [if_pos (h45.mpr c), if_neg (by decide), h3]
    have hB : nbB t p = 1 := by unfold nbB; rw [if_pos c]
    exact core _ 1 (fun q hq => sto_ne hq) (by rw [sto_eq, nI_1, hB]) (by rw [sto_nj (by decide)]; exact h4) (by simp [c])
  · rw [if_neg (fun y => c (h45.mp y))]
    have hB : nbB t p = 0 := by unfold nbB; rw [if_neg c]
    have hc := core σ 0 (fun _ _ => rfl) (by rw [hB]; exact h3) h4 (by simp [c])
    simp only [h3, cat_ok h ht (show p < 2 ^ 31 by omega), cl_s, if_true] at hc ⊢
    exact hc
theorem numbers_ok {σ : Mem} {t : Tp} (h : CTp σ t) (ht : Tok t) {i : Nat} (hi : i < 12) {f : Fm} (hf : CForm σ (11 + 22 * i) f) {p : Nat} (hp : p ≤ 200) (h3 : σ 295 3 = nI p) :
    ∃ σ', (∀ q, q ≠ 295 → σ' q = σ q) ∧ ((∃ e, e < 1000 ∧ nbsP f t (lts f).length 0 p (valP f) = .inl e ∧ fX5_numbers σ (11 + 22 * i) = some (0, σ') ∧ σ' 295 3 = nI e) ∨ (∃ x, x.1 < 1000 ∧ isW x.2 ∧ nbsP f t (lts f).length 0 p (valP f) = .inr x ∧ fX5_numbers σ (11 + 22 * i) = some (1, σ') ∧ σ' 295 3 = nI x.1 ∧ σ' 295 4 = x.2)) := by
  have hlen := lts_len8 f
  have hT := ht.1
  unfold fX5_numbers
  rw [lt_e, hf.1.2.2.2]
  refine loopM (fX5_numbers_L10 (fun (m6 : Mem) => some ((0 : Int32), m6)) (fun (m8 : Mem) => some ((0 : Int32), m8)) (fun (m10 : Mem) => some ((1 : Int32), m10)) (11 + 22 * i)) (fX5_numbers_L10_b (fun (m6 : Mem) => some ((0 : Int32), m6)) (fun (m8 : Mem) => some ((0 : Int32), m8)) (fun (m10 : Mem) => some ((1 : Int32), m10)) (11 + 22 * i)) (fun _ _ _ => rfl) (lts f).length
    (fun k m => (∀ q, q ≠ 295 → m q = σ q) ∧ ∃ p' w', p' ≤ 205 ∧ isW w' ∧ m 295 3 = nI p' ∧ m 295 4 = w' ∧ nbsP f t (lts f).length 0 p (valP f) = nbsP f t ((lts f).length - k) k p' w')
    (fun r => ∃ σ', (∀ q, q ≠ 295 → σ' q = σ q) ∧ ((∃ e, e < 1000 ∧ nbsP f t (lts f).length 0 p (valP f) = .inl e ∧ r = some (0, σ') ∧ σ' 295 3 = nI e) ∨ (∃ x, x.1 < 1000 ∧ isW x.2 ∧ nbsP f t (lts f).length 0 p (valP f) = .inr x ∧ r = some (1, σ') ∧ σ' 295 3 = nI x.1 ∧ σ' 295 4 = x.2))) ?_ ?_ 5000 0 _ (by omega) (by omega) ⟨fun q hq => sto_ne hq, p, valP f, by omega, isW_mkS _, by rw [sto_nj (by decide)]; exact h3, sto_eq, rfl⟩
  · rintro m rec ⟨h1, p', w', g1, g2, g3, g4, e⟩
    unfold fX5_numbers_L10_b
    rw [h1 _ (by omega), hf.2.2.1.1, if_neg (nI_nlt (Nat.le_refl _) (by omega))]
    rw [Nat.sub_self, nbsP] at e
    exact ⟨m, h1, Or.inr ⟨(p', w'), by show p' < 1000; omega, g2, e, rfl, g3, g4⟩⟩
  · rintro k m rec hk ⟨h1, p', w', g1, g2, g3, g4, e⟩
    unfold fX5_numbers_L10_b
    have hm : CTp m t := by unfold CTp; rw [h1 281 (by decide), h1 282 (by decide)]; exact h
    have hmem := lts_mem.mp (List.getElem_mem hk)
    have hgd : (lts f).getD k 0 = (lts f)[k] := by simp [hk]
    have h32 := bA_eq ht (c := 32) (by decide) p'
    rw [show nI 32 = (32 : Int32) from rfl] at h32
    rw [h1 _ (by omega), hf.2.2.1.1, if_pos (nI_lt hk (by omega)), g3, cat_ok hm ht (by omega), cl_s]
    have hst : nbsP f t ((lts f).length - k) k p' w' = if isC t 32 p' = true then (match nbP f ((lts f).getD k 0) t (p' + 1) w' with | .inl e => .inl e | .inr x => nbsP f t ((lts f).length - (k + 1)) (k + 1) x.1 x.2) else .inl p' := by
      obtain ⟨j, j1, j2⟩ : ∃ j, (lts f).length - k = j + 1 ∧ (lts f).length - (k + 1) = j := ⟨(lts f).length - k - 1, by omega, by omega⟩
      rw [j1, j2, nbsP]
    rw [hst, hgd] at e
    by_cases c : isC t 32 p' = true
    · have hp' : p' < 200 := by unfold isC at c; simp only [Bool.and_eq_true, decide_eq_true_eq] at c; omega
      rw [if_pos c] at e
      rw [if_pos (h32.mpr c), lt_e, g3, nI_1]
      have hs : ∀ q, q ≠ 295 → sto m 295 3 (nI (p' + 1)) q = σ q := fun q hq => by rw [sto_ne hq]; exact h1 q hq
      have hf1 : CForm (sto m 295 3 (nI (p' + 1))) (11 + 22 * i) f := hf.congr (fun q x y => hs q (by omega))
      obtain ⟨d1, d2⟩ := cfieldAt_ok hi hf1 hk
      have hlb := hmem.1
      obtain ⟨m1, c1, c2⟩ := number_ok (σ := sto m 295 3 (nI (p' + 1))) (t := t) (by unfold CTp; rw [hs 281 (by decide), hs 282 (by decide)]; exact h) ht (hf1.2.1 _ hmem.1) hmem.2 (by omega) (p := p' + 1) (by omega) g2 sto_eq (by rw [sto_nj (by decide)]; exact g4)
      rw [d1, cl_s, ck_t d2]
      have q1 : ∀ q, q ≠ 295 → m1 q = σ q := fun q hq => by rw [c1 q hq]; exact hs q hq
      rcases c2 with ⟨e', f1, f2, f3⟩ | ⟨x, f1, f2, f3, f4⟩
      · left
        rw [f1] at e
        rw [f2, cl_s, if_pos rfl]
        exact ⟨m1, q1, Or.inl ⟨e', by have := nbP_l f1; omega, e, rfl, f3⟩⟩
      · right
        rw [f1] at e
        rw [f2, cl_s, if_neg (by decide), nI_1]
        have := nbP_r f1
        exact ⟨m1, ⟨q1, x.1, x.2, by omega, this.2, f3, f4, e⟩, rfl⟩
    · left
      rw [if_neg c] at e
      rw [if_neg (fun y => c (h32.mp y))]
      exact ⟨m, h1, Or.inl ⟨p', by omega, e, rfl, g3⟩⟩
theorem nm3_pos {x y z : Nat} (h : Nm x y z) : 0 < nm3 x y z := by
  unfold Nm Ltr at h; unfold nm3
  split
  · omega
  · split <;> omega
/-- names in a line -/
def cod (t : Tp) (i : Nat) : Nat := if i = 0 then 0 else if i = 1 then t.2 0 else if i = 2 then t.2 0 * 256 + t.2 1 else if i = 3 then (t.2 0 * 256 + t.2 1) * 256 + t.2 2 else 0
def lnK (t : Tp) : Nat := spn (isBt t 97 122) 0 200
def rdF (A : Ab) (t : Tp) : Option Nat := if 1 ≤ lnK t ∧ lnK t ≤ 3 then fndF (fun i => nmIs (A.F i) (t.2 0) (if 1 < lnK t then t.2 1 else 0) (if 2 < lnK t then t.2 2 else 0)) 0 A.n else none
theorem lnK_all {t : Tp} {j : Nat} (h : j < lnK t) : Ltr (t.2 j) ∧ j < t.1 := by
  have := spn_all (q := isBt t 97 122) (i := 0) (j := j) (c := 200) (Nat.zero_le _) (by rw [Nat.zero_add]; exact h)
  unfold isBt at this
  simp only [Bool.and_eq_true, decide_eq_true_eq] at this
  exact ⟨⟨this.2.1, this.2.2⟩, this.1⟩
theorem cformNamed_ok {σ : Mem} {A : Ab} (h : CInv σ A) (ha : AOk A) {t : Tp} (hC : CTp σ t) (ht : Tok t) (h3 : σ 295 3 = 0) :
    ∃ σ', fX5_formNamed σ = some (ansO (rdF A t), σ') ∧ σ' 295 3 = nI (lnK t) ∧ ∀ q, q ≠ 295 → σ' q = σ q := by
  have hT := ht.1
  have hn := h.mean.1.2.1
  unfold fX5_formNamed
  have fin : ∀ m, m 295 3 = nI (lnK t) → (∀ q, q ≠ 295 → m q = σ q) → ∃ σ', (if nI (cod t (lnK t)) = (0 : Int32) then some ((-1 : Int32), m) else cl (fX4_find m (nI (cod t (lnK t))) (m 9 1)) <| fun r9 m8 => some (r9, m8)) = some (ansO (rdF A t), σ') ∧ σ' 295 3 = nI (lnK t) ∧ ∀ q, q ≠ 295 → σ' q = σ q := by
    intro m g1 g2
    refine ⟨m, ?_, g1, g2⟩
    unfold rdF
    by_cases c : 1 ≤ lnK t ∧ lnK t ≤ 3
    case neg =>
      have : cod t (lnK t) = 0 := by
        unfold cod
        by_cases z : lnK t = 0
        · rw [if_pos z]
        · rw [if_neg z, if_neg (by omega), if_neg (by omega), if_neg (by omega)]
      rw [this, if_pos (show nI 0 = 0 from rfl), if_neg c]; rfl
    have l0 := (lnK_all (t := t) (j := 0) (by omega)).1
    have hN : Nm (t.2 0) (if 1 < lnK t then t.2 1 else 0) (if 2 < lnK t then t.2 2 else 0) := by
      refine ⟨l0, ?_, ?_, ?_⟩
      · by_cases z : 1 < lnK t
        · rw [if_pos z]; exact Or.inr (lnK_all z).1
        · rw [if_neg z]; exact Or.inl rfl
      · by_cases z : 2 < lnK t
        · rw [if_pos z]; exact Or.inr (lnK_all z).1
        · rw [if_neg z]; exact Or.inl rfl
      · by_cases z : 1 < lnK t
        · rw [if_pos z]
          intro y
          have := (lnK_all z).1
          unfold Ltr at this
          omega
        · intro _
          rw [if_neg (by omega)]
    have hcod : cod t (lnK t) = nm3 (t.2 0) (if 1 < lnK t then t.2 1 else 0) (if 2 < lnK t then t.2 2 else 0) := by
      have hc : lnK t = 1 ∨ lnK t = 2 ∨ lnK t = 3 := by omega
      rcases hc with e | e | e
      · rw [e]; simp [cod, nm3]
      · have l1 := (lnK_all (t := t) (j := 1) (by omega)).1
        unfold Ltr at l1
        have : ¬ t.2 1 = 0 := by omega
        rw [e]; simp [cod, nm3, this]
      · have l1 := (lnK_all (t := t) (j := 1) (by omega)).1
        have l2 := (lnK_all (t := t) (j := 2) (by omega)).1
        unfold Ltr at l1 l2
        have a1 : ¬ t.2 1 = 0 := by omega
        have a2 : ¬ t.2 2 = 0 := by omega
        rw [e]; simp [cod, nm3, a1, a2]
    have hlt := nm3_lt hN
    have hpos := nm3_pos hN
    rw [hcod, if_neg (nI_ne0 hpos (by omega)), if_pos c, g2 9 (by decide), h.mean.1.1]
    rw [find_ok (F := A.F) hn (fun i hi => ⟨by rw [g2 _ (by omega)]; exact (h.mean.1.2.2 i hi).1.1.2.1, by have := nm3_lt (ha i hi).1.nm; rw [nmC_nm3]; omega⟩) (by omega), cl_s]
    rw [fndF_congr (fun j _ hj => nmC_eq (ha j (by omega)).1 hN)]
  refine loopA (fX5_formNamed_L4 _) (fX5_formNamed_L4_b _) (fun _ _ _ _ => rfl) 200
    (fun k m x => x = nI (cod t k) ∧ m 295 3 = nI k ∧ (∀ q, q ≠ 295 → m q = σ q) ∧ lnK t = k + spn (isBt t 97 122) k (200 - k))
    (fun r => ∃ σ', r = some (ansO (rdF A t), σ') ∧ σ' 295 3 = nI (lnK t) ∧ ∀ q, q ≠ 295 → σ' q = σ q) ?_ ?_ 5000 0 σ 0 (by omega) (by omega) ⟨rfl, h3, fun _ _ => rfl, by unfold lnK; rw [Nat.zero_add]⟩
  · rintro m x rec ⟨rfl, g1, g2, e⟩
    unfold fX5_formNamed_L4_b
    rw [if_neg (by decide)]
    have e' : lnK t = 200 := e
    rw [← e'] at g1
    have := fin m g1 g2
    rw [e'] at this ⊢
    exact this
  · rintro k m x rec hk ⟨rfl, g1, g2, e⟩
    unfold fX5_formNamed_L4_b
    have hm : CTp m t := by unfold CTp; rw [g2 281 (by decide), g2 282 (by decide)]; exact hC
    rw [if_pos (show nI k < 200 from nI_lt (b := 200) hk (by decide)), g1, cat_ok hm ht (by omega), cl_s, cin ht, cl_s, g1, cat_ok hm ht (by omega)]
    simp only [lt_e, cl_s]
    rw [spn_s (q := isBt t 97 122) (i := k) hk] at e
    by_cases z : isBt t 97 122 k = true
    · right
      have hz := z
      unfold isBt at hz
      simp only [Bool.and_eq_true, decide_eq_true_eq] at hz
      rw [if_pos z] at e
      rw [if_pos z, if_neg (by decide), g1, nI_1]
      have hbA : bA t k = nI (t.2 k) := by unfold bA; rw [if_pos hz.1]
      have hnext : ∀ v : Int32, v = nI (cod t (k + 1)) → ∃ m' t', (t' = nI (cod t (k + 1)) ∧ m' 295 3 = nI (k + 1) ∧ (∀ q, q ≠ 295 → m' q = σ q) ∧ lnK t = k + 1 + spn (isBt t 97 122) (k + 1) (200 - (k + 1))) ∧ rec (sto m 295 3 (nI (k + 1))) v (nI (k + 1)) = rec m' t' (nI (k + 1)) :=
        fun v hv => ⟨_, v, ⟨hv, sto_eq, fun q hq => by rw [sto_ne hq]; exact g2 q hq, by omega⟩, rfl⟩
      by_cases k3 : k < 3
      · have l256 := ht.2
        have hb0 : cod t k < 2 ^ 16 := by
          have hc : k = 0 ∨ k = 1 ∨ k = 2 := by omega
          rcases hc with y | y | y
          · subst y; simp [cod]
          · subst y; have := l256 0 (by omega); simp [cod]; omega
          · subst y; have := l256 0 (by omega); have := l256 1 (by omega); simp [cod]; omega
        rw [if_pos (show nI k < 3 from nI_lt (b := 3) k3 (by decide)), hbA, withSign_ok m hb0 (by omega), cl_s, g1, nI_1]
        refine hnext _ ?_
        have hc : k = 0 ∨ k = 1 ∨ k = 2 := by omega
        rcases hc with y | y | y
        · subst y; simp [cod]
        · subst y; simp [cod]
        · subst y; simp [cod]
      · rw [if_neg (show ¬ nI k < 3 from nI_nlt (b := 3) (by omega) (by omega))]
        refine hnext _ ?_
        unfold cod
        rw [if_neg (by omega), if_neg (by omega), if_neg (by omega), if_neg (by omega)]; rfl
    · left
      rw [if_neg z] at e
      have e' : lnK t = k := by omega
      rw [if_neg z, if_pos rfl]
      rw [← e'] at g1 ⊢
      exact fin m g1 g2
def readP (A : Ab) (t : Tp) : Int32 := match rdF A t with
  | none => -10 - nI (lnK t)
  | some i => match nbsP (A.F i) t (lts (A.F i)).length 0 (lnK t) (valP (A.F i)) with
    | .inl e => -10 - nI e
    | .inr x => if x.1 < t.1 then -10 - nI x.1 else if mnN A.F A.n x.2 = i then x.2 else -10 - nI (t.1 + 1)
def gRead (A : Ab) : Int32 × Ab := (readP A (A.tc, A.tp), setT A 0 A.tp)
theorem rdF_lt {A : Ab} {t : Tp} {i : Nat} (h : rdF A t = some i) : i < A.n := by
  unfold rdF at h
  split at h
  · have := fndF_lt h; omega
  · cases h
theorem cs_read : CSa fX10_read gRead := by
  intro σ A h ha
  unfold fX10_read fX5_wordOrFault gRead
  have hn := h.mean.1.2.1
  have ht : Tok (A.tc, A.tp) := ⟨h.tape.2.1, fun i hi => (h.tape.2.2 i hi).2⟩
  have hlk : lnK (A.tc, A.tp) ≤ 200 := spn_le _ _ _
  simp only [lt_e]
  have hs0 : ∀ q, q ≠ 295 → sto σ 295 3 0 q = σ q := fun q hq => sto_ne hq
  have hI0 : CInv (sto σ 295 3 0) A := h.congr (fun q x y => hs0 q (by omega))
  have hC0 : CTp (sto σ 295 3 0) (A.tc, A.tp) := ⟨hI0.tape.1, fun i hi => (hI0.tape.2.2 i hi).1⟩
  obtain ⟨m1, a1, a2, a3⟩ := cformNamed_ok hI0 ha hC0 ht sto_eq
  have q1 : ∀ q, q ≠ 295 → m1 q = σ q := fun q hq => (a3 q hq).trans (hs0 q hq)
  have hI1 : CInv m1 A := h.congr (fun q x y => q1 q (by omega))
  have hC1 : CTp m1 (A.tc, A.tp) := ⟨hI1.tape.1, fun i hi => (hI1.tape.2.2 i hi).1⟩
  rw [a1, cl_s, has4 hI1, cl_s]
  -- how it ends
  have fin : ∀ (m : Mem) (v : Int32), CInv m A → Hi σ m → v = readP A (A.tc, A.tp) → ∃ σ', (cl (some (v, m)) fun r2 m1 => some (r2, sto m1 281 1 0)) = some (readP A (A.tc, A.tp), σ') ∧ CInv σ' (setT A 0 A.tp) ∧ ∀ k, 362 ≤ k → σ' k = σ k := by
    rintro m v g1 g2 rfl
    rw [cl_s]
    exact ⟨_, rfl, g1.tp0, fun k hk => by rw [sto_ne (by omega)]; exact g2 k hk⟩
  have hi1 : Hi σ m1 := fun q hq => q1 q (by omega)
  cases hr : rdF A (A.tc, A.tp) with
  | none =>
    rw [if_neg (show ¬ (0 ≤ ansO none ∧ ansO none < nI A.n) from fun z => absurd z.1 (by decide)), if_pos rfl, a2]
    exact fin m1 _ hI1 hi1 (by unfold readP; rw [hr])
  | some i =>
    have hi := rdF_lt hr
    have hal : ansO (some i) = nI i := rfl
    have hf := hI1.mean.1.2.2 i hi
    obtain ⟨m2, b1, b2⟩ := numbers_ok hC1 ht (show i < 12 by omega) hf.1 hlk a2
    have q2 : ∀ q, q ≠ 295 → m2 q = σ q := fun q hq => (b1 q hq).trans (q1 q hq)
    have hI2 : CInv m2 A := h.congr (fun q x y => q2 q (by omega))
    have hi2 : Hi σ m2 := fun q hq => q2 q (by omega)
    rw [hal, if_pos (show 0 ≤ nI i ∧ nI i < nI A.n from ⟨nI_pos' (by omega), nI_lt hi (by omega)⟩), if_neg (by decide), ck_t (inb_nI (show i < 12 by omega) (by decide)), ix_nI (by omega)]
    rcases b2 with ⟨e, e0, e1, e2, e3⟩ | ⟨x, e0, ew, e1, e2, e3, e4⟩
    · rw [e2, cl_s, if_pos rfl, e3]
      exact fin m2 _ hI2 hi2 (by unfold readP; rw [hr]; simp only [e1])
    · rw [e2, cl_s, if_neg (by decide), e3, hI2.tape.1]
      have hT := ht.1
      have hT2 : A.tc ≤ 200 := hT
      by_cases c : x.1 < A.tc
      · rw [if_pos (nI_lt c (by omega))]
        exact fin m2 _ hI2 hi2 (by unfold readP; rw [hr]; simp only [e1]; rw [if_pos c])
      · rw [if_neg (nI_nlt (by omega) (by omega)), e4]
        obtain ⟨v, hv, ev⟩ := isW_of ew
        rw [ev]
        obtain ⟨m3, d1, d2⟩ := meaning_ex hI2.mean hv
        have hm := (mnN_lt (F := A.F) hn (nI v)).1
        have hI3 := hI2.kx d2
        have hi3 : Hi σ m3 := fun q hq => (d2.hi q hq).trans (hi2 q hq)
        rw [d1, cl_s]
        by_cases z : mnN A.F A.n (nI v) = i
        · rw [if_pos (by rw [z]), d2.2 295 (by decide), e4, ev]
          exact fin m3 _ hI3 hi3 (by unfold readP; rw [hr]; simp only [e1]; rw [if_neg c, ev, if_pos z])
        · rw [if_neg (fun y => z ((nI_eq (by omega) (by omega)).mp y)), hI3.tape.1, nI_1]
          exact fin m3 _ hI3 hi3 (by unfold readP; rw [hr]; simp only [e1]; rw [if_neg c, ev, if_neg z])
