theorem bt_shr1 (x : Int32) {i : Nat} (hi : i + 1 < 32) : bt (x >>> ((1 : Int32) &&& 31)) i = bt x (i + 1) := bt_shr (k := 1) (by decide) x hi
theorem and1_eq (x : Int32) : (x &&& 1 = 1) ↔ bt x 0 = true := by
  rw [and1]
  cases bt x 0 <;> simp
theorem cnt_le (p : Nat → Bool) : ∀ n, cnt p n ≤ n
  | 0 => Nat.le_refl _
  | n + 1 => by rw [cnt]; have := cnt_le p n; cases p n <;> simp <;> omega
theorem laidIn_loop {σ : Mem} {i l : Nat} {pt : Nat → Nat} (h : RPat σ i pt) (hl : l < 8) (w v : Int32) (kk : Mem → Int32 → Option (Int32 × Mem)) :
    ∀ (n j : Nat) (x y : Int32), j ≤ 12 → 12 - j < n → (∀ b, bt x b = if b < j ∧ fp pt l b = true then bt v (cnt (fp pt l) b) else bt w b) → (∀ t, t + cnt (fp pt l) j < 32 → bt y t = bt v (t + cnt (fp pt l) j)) →
      ∃ z, fX11_laidIn_L10 kk (nI i) (nI l) n σ x y (nI j) = kk σ z ∧ ∀ b, bt z b = if b < 12 ∧ fp pt l b = true then bt v (cnt (fp pt l) b) else bt w b := by
  intro n
  induction n with
  | zero => intro j x y hj hn; omega
  | succ n ih =>
    intro j x y hj hn hx hy
    show ∃ z, fX11_laidIn_L10_b kk (nI i) (nI l) (fX11_laidIn_L10 kk (nI i) (nI l) n) σ x y (nI j) = kk σ z ∧ _
    unfold fX11_laidIn_L10_b
    by_cases e : j < 12
    · rw [if_pos (show nI j < 12 from nI_lt (b := 12) e (by decide)), signAt_ok h e, cl_s, ck_t (inb_nI hl (by decide)), ix_nI (by omega)]
      simp only [lt_e, nI_1]
      have hs := sign_eq (l := l) (h.2 j e).2 hl
      have hcj := cnt_le (fp pt l) j
      by_cases hp : fp pt l j = true
      · rw [if_pos (hs.mpr hp)]
        have hc1 : cnt (fp pt l) (j + 1) = cnt (fp pt l) j + 1 := by rw [cnt, if_pos hp]
        have hy0 : bt y 0 = bt v (cnt (fp pt l) j) := by rw [hy 0 (by omega), Nat.zero_add]
        have hy' : ∀ t, t + cnt (fp pt l) (j + 1) < 32 → bt (y >>> ((1 : Int32) &&& 31)) t = bt v (t + cnt (fp pt l) (j + 1)) := by
          intro t ht
          rw [bt_shr1 y (by omega), hy (t + 1) (by omega), hc1]
          congr 1; omega
        by_cases hb : bt y 0 = true
        · rw [if_pos ((and1_eq y).mpr hb)]
          refine ih (j + 1) _ _ (by omega) (by omega) (fun b => ?_) hy'
          rw [bt_or, bt_one (by omega), hx b]
          by_cases hbj : b = j
          · subst hbj; simp [hp, ← hy0, hb]
          · have : (b < j + 1) ↔ (b < j) := by omega
            simp [hbj, this]
        · have hb' : bt y 0 = false := by simpa using hb
          rw [if_neg (fun z => hb ((and1_eq y).mp z))]
          refine ih (j + 1) _ _ (by omega) (by omega) (fun b => ?_) hy'
          rw [bt_and, bt_not, bt_one (by omega), hx b]
          by_cases hbj : b = j
          · subst hbj; simp [hp, ← hy0, hb']
          · have : (b < j + 1) ↔ (b < j) := by omega
            by_cases h32 : b < 32
            · simp [hbj, this, h32]
            · have hq : ¬ b < j := by omega
              simp [hbj, this, h32, hq, bt_big (x := w) (i := b) (by omega)]
      · rw [if_neg (fun z => hp (hs.mp z))]
        have hc1 : cnt (fp pt l) (j + 1) = cnt (fp pt l) j := by rw [cnt, if_neg hp, Nat.add_zero]
        refine ih (j + 1) _ _ (by omega) (by omega) (fun b => ?_) (by rw [hc1]; exact hy)
        rw [hx b]
        by_cases hbj : b = j
        · subst hbj; simp [hp]
        · have : (b < j + 1) ↔ (b < j) := by omega
          simp [this]
    · have : j = 12 := by omega
      subst this
      rw [if_neg (by decide)]
      exact ⟨x, rfl, hx⟩
theorem laidIn_ok {σ : Mem} {i l : Nat} {pt : Nat → Nat} (h : RPat σ i pt) (hl : l < 8) (w v : Int32) (hw : ∀ b, 12 ≤ b → bt w b = false) : fX11_laidIn σ (nI i) (nI l) w v = some (laP (fp pt l) w v, σ) := by
  unfold fX11_laidIn
  obtain ⟨z, h1, h2⟩ := laidIn_loop h hl w v (fun m9 x10 => some (x10, m9)) 5000 0 w v (by omega) (by omega) (fun b => by simp) (fun t _ => by simp [cnt])
  have hz : nI 0 = (0 : Int32) := rfl
  rw [hz] at h1
  rw [h1]
  have : z = laP (fp pt l) w v := by
    apply bt_ext
    intro b hb
    rw [h2 b, laP, bt_mkS _ (by decide)]
    by_cases h12 : b < 12
    · cases hq : fp pt l b <;> simp [h12, hq]
    · simp [h12, hw b (by omega)]
  rw [this]
/-- words -/
def isW (w : Int32) : Prop := ∀ b, 12 ≤ b → bt w b = false
theorem isW_nI {n : Nat} (h : n < 4096) : isW (nI n) := by
  intro b hb
  rw [bt_nI (by omega)]
  exact Nat.testBit_lt_two_pow (Nat.lt_of_lt_of_le h (show 2 ^ 12 ≤ 2 ^ b from Nat.pow_le_pow_right (by decide) hb))
theorem isW_mkS (p : Nat → Bool) : isW (mkS p 12) := by
  intro b hb
  rw [bt_mkS _ (by decide)]
  have : ¬ b < 12 := by omega
  simp [this]
theorem isW_laP (p : Nat → Bool) (w v : Int32) : isW (laP p w v) := isW_mkS _
