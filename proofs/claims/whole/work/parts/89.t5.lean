/-! ===== texts: a statement, in the class ===== -/
theorem CPk.congr {σ σ' : Mem} {k0 : Nat} {P : Nat → Nat} {k : Nat} (h : CPk σ k0 P k) (h2 : σ' k0 2 = σ k0 2) (h3 : σ' k0 3 = σ k0 3) (h6 : σ' k0 6 = σ k0 6) (hq : ∀ q, k0 < q → q < k0 + 22 → σ' q = σ q) : CPk σ' k0 P k := by
  obtain ⟨p1, p2, p3, p4, p5⟩ := h
  exact ⟨h2.trans p1, h3.trans p2, fun l hl => (p3 l hl).congr (hq _ (by omega) (by omega)) (hq _ (by omega) (by omega)), h6.trans p4, fun i hi => by rw [hq (k0 + 2) (by omega) (by omega)]; exact p5 i hi⟩
theorem csg_at {σ σ' : Mem} {c : Nat} (hS : CSg σ) (hq : ∀ q, q < 11 + 22 * c ∨ 11 + 22 * c + 22 ≤ q → q ≠ 294 → σ' q = σ q) (hl : ∀ l, l < 8 → σ' (11 + 22 * c + 1 + 5 + 2 * l) 0 = if decide (3 < l) = true then 1 else 0) : CSg σ' := by
  intro i l hi h8
  by_cases e : i = c
  · subst e; rw [hl l h8]; by_cases z : 3 < l <;> simp [z]
  · rw [hq _ (by omega) (by omega)]; exact hS i l hi h8
theorem csg_g {σ : Mem} {c : Nat} (hc : c < 12) (hS : CSg σ) : ∀ l, l < 8 → σ (11 + 22 * c + 1 + 5 + 2 * l) 0 = if decide (3 < l) = true then 1 else 0 := fun l h8 => by
  rw [hS c l hc h8]; by_cases z : 3 < l <;> simp [z]
abbrev FrS (c : Nat) (σ σ' : Mem) : Prop := Fp4 σ σ' ∧ CSg σ' ∧ ∀ q, q < 11 + 22 * c ∨ 11 + 22 * c + 22 ≤ q → q ≠ 294 → σ' q = σ q
theorem kind_ok {σ : Mem} {t : Tp} (hT : CTp σ t) (ht : Tok t) {k0 : Nat} (hk : k0 < 275) {p : Nat} (hp : p < 1000) (h2 : σ 294 2 = nI p) :
    fX7_kind σ k0 = some (match kdA t p with | none => (0, sto σ k0 0 (-1)) | some k => (1, sto (sto σ k0 0 (nI k)) 294 2 (nI (p + 1)))) := by
  unfold fX7_kind
  rw [h2, cat_ok hT ht (by omega), cl_s, kindOf_ok σ ht, cl_s, lt_e, sto_eq]
  cases hk : kdA t p with
  | none => rw [if_pos (show ansO none = -1 from rfl)]; rfl
  | some k =>
    have h7 : k < 7 := by
      unfold kdA at hk
      split at hk
      · exact (kdO_iff.mp hk).1
      · cases hk
    rw [show ansO (some k) = nI k from rfl, if_neg (fun y => absurd (nI_pos' (show k < 2 ^ 31 by omega)) (by rw [y]; decide)), lt_e, sto_ne (by omega), h2, nI_1]
theorem statement_ok {σ : Mem} {t : Tp} (hT : CTp σ t) (ht : Tok t) (hS : CSg σ) {c : Nat} (hc : c ≤ 12) {G : Nat → Fm} (hG : ∀ i, i < c → σ (11 + 22 * i) 1 = nI (nmC (G i)) ∧ Nok (G i)) {p : Nat} (hp : p < 300) (h2 : σ 294 2 = nI p) (h3 : σ 294 3 = nI c) :
    ∃ σ', FrS c σ σ' ∧ ((∃ e, stP G c t p = .inl e ∧ fX7_statement σ = some (0, σ') ∧ σ' 294 2 = nI e) ∨ (∃ x, stP G c t p = .inr x ∧ fX7_statement σ = some (1, σ') ∧ σ' 294 2 = nI x.1 ∧ CForm σ' (11 + 22 * c) x.2)) := by
  unfold fX7_statement stP
  rw [h3]
  by_cases c12 : c = 12
  · subst c12
    rw [if_neg (show ¬ nI 12 < 12 by decide), if_pos rfl]
    exact ⟨σ, ⟨fun _ _ => rfl, hS, fun _ _ _ => rfl⟩, Or.inl ⟨p, rfl, rfl, h2⟩⟩
  have hc' : c < 12 := by omega
  rw [if_pos (show nI c < 12 from nI_lt (b := 12) hc' (by decide)), ck_t (inb_nI hc' (by decide)), if_neg c12]
  simp only [ix_nI (show c < 2 ^ 31 by omega)]
  obtain ⟨m1, a1, a2, a3, a4, a5⟩ := clear_ok hS hc' (pP t (pat0 t p))
  rw [a1, cl_s]
  have h294 : m1 294 = σ 294 := a4 294 (by omega)
  have hT1 : CTp m1 t := by unfold CTp; rw [a4 281 (by omega), a4 282 (by omega)]; exact hT
  have hL1 := csg_g hc' a5
  rw [kind_ok hT1 ht (by omega) (p := p) (by omega) (by rw [h294]; exact h2), cl_s]
  cases hkd : kdA t p with
  | none =>
    refine ⟨sto m1 (11 + 22 * c) 0 (-1), ⟨fun j hj => by rw [sto_ne (by omega), h294], ?_, fun q hq hn => by rw [sto_ne (by omega)]; exact a4 q hq⟩, Or.inl ⟨p, rfl, if_pos rfl, by rw [sto_ne (by omega), h294]; exact h2⟩⟩
    exact fun i l hi h8 => by rw [sto_ne (by omega)]; exact a5 i l hi h8
  | some kd =>
    simp only [if_neg (show ¬ ((1 : Int32) = 0) by decide)]
    have hle := nmK_le t p
    generalize hm : sto (sto m1 (11 + 22 * c) 0 (nI kd)) 294 2 (nI (p + 1)) = m2
    have b0 : m2 (11 + 22 * c) 0 = nI kd := by rw [← hm, sto_ne (by omega), sto_eq]
    have b1 : m2 294 2 = nI (p + 1) := by rw [← hm, sto_eq]
    have b2 : Fp4 σ m2 := fun j hj => by rw [← hm, sto_nj hj, sto_ne (by omega), h294]
    have b3 : ∀ q, q ≠ 294 → q ≠ 11 + 22 * c → m2 q = m1 q := fun q x y => by rw [← hm, sto_ne x, sto_ne y]
    have b4 : ∀ j, j ≠ 0 → m2 (11 + 22 * c) j = m1 (11 + 22 * c) j := fun j hj => by rw [← hm, sto_ne (by omega), sto_nj hj]
    have b5 : CTp m2 t := by unfold CTp; rw [b3 281 (by decide) (by omega), b3 282 (by decide) (by omega)]; exact hT1
    obtain ⟨m3, d1, d2, d3, d4, d5, d6⟩ := name_ok b5 ht hc' (G := G) (fun i hi => ⟨by rw [b3 _ (by omega) (by omega), a4 _ (by omega)]; exact (hG i hi).1, (hG i hi).2⟩) (by omega) b1 (by rw [b2 3 (by decide)]; exact h3)
    have f3 : ∀ q, q < 11 + 22 * c ∨ 11 + 22 * c + 22 ≤ q → q ≠ 294 → m3 q = σ q := fun q hq hn => by rw [d3 q hn (by omega), b3 q hn (by omega)]; exact a4 q hq
    have f3q : ∀ q, 11 + 22 * c < q → q < 11 + 22 * c + 22 → m3 q = m1 q := fun q x y => by rw [d3 q (by omega) (by omega), b3 q (by omega) (by omega)]
    have f3p : Fp4 σ m3 := fun j hj => by rw [d2 j hj]; exact b2 j hj
    have f3s : CSg m3 := csg_at hS f3 (fun l hl => by rw [f3q _ (by omega) (by omega)]; exact hL1 l hl)
    have hT3 : CTp m3 t := by unfold CTp; rw [f3 281 (by omega) (by decide), f3 282 (by omega) (by decide)]; exact hT
    rw [d5, cl_s]
    by_cases z : nmK t p = 0 ∨ tkn G c t p ≠ none
    · rw [if_pos z, if_pos rfl, if_pos (show nmK t p = 0 ∨ tkn G c t p ≠ none ∨ ¬ isC t 58 (p + 1 + nmK t p) = true by rcases z with z | z; exact Or.inl z; exact Or.inr (Or.inl z))]
      exact ⟨m3, ⟨f3p, f3s, f3⟩, Or.inl ⟨_, rfl, rfl, d1⟩⟩
    rw [if_neg z, if_neg (show ¬ ((1 : Int32) = 0) by decide), show (58 : Int32) = nI 58 from rfl, sign_ok hT3 ht (by omega) d1 (by decide), cl_s]
    by_cases y : isC t 58 (p + 1 + nmK t p) = true
    case neg =>
      rw [if_neg y, if_pos rfl, if_pos (Or.inr (Or.inr y))]
      exact ⟨m3, ⟨f3p, f3s, f3⟩, Or.inl ⟨_, rfl, rfl, d1⟩⟩
    rw [if_pos y, if_neg (show ¬ (nmK t p = 0 ∨ tkn G c t p ≠ none ∨ ¬ isC t 58 (p + 1 + nmK t p) = true) from fun w => by rcases w with w | w | w; exact z (Or.inl w); exact z (Or.inr w); exact w y)]
    simp only [if_neg (show ¬ ((1 : Int32) = 0) by decide)]
    generalize hm4 : sto m3 294 2 (nI (p + 1 + nmK t p + 1)) = m4
    have g1 : m4 294 2 = nI (pat0 t p) := by rw [← hm4, sto_eq]; rfl
    have g2 : Fp4 σ m4 := fun j hj => by rw [← hm4, sto_nj hj]; exact f3p j hj
    have g3 : ∀ q, q ≠ 294 → m4 q = m3 q := fun q x => by rw [← hm4, sto_ne x]
    have hT4 : CTp m4 t := by unfold CTp; rw [g3 281 (by decide), g3 282 (by decide)]; exact hT3
    have g4 : ∀ j, j ≠ 0 → j ≠ 1 → m4 (11 + 22 * c) j = m1 (11 + 22 * c) j := fun j x w => by rw [g3 _ (by omega), d4 j w, b4 j x]
    have hp0 : pat0 t p < 310 := by unfold pat0; omega
    have hCP : CPk m4 (11 + 22 * c) (pP t (pat0 t p)) 0 := a2.congr (g4 2 (by decide) (by decide)) (g4 3 (by decide) (by decide)) (g4 6 (by decide) (by decide)) (fun q x w => by rw [g3 q (by omega), f3q q x w])
    obtain ⟨m5, e1, e2, e3, e4, e5, e6, e7⟩ := pattern_ok hT4 ht hc' (p := pat0 t p) (by omega) g1 hCP
    have f5 : ∀ q, q < 11 + 22 * c ∨ 11 + 22 * c + 22 ≤ q → q ≠ 294 → m5 q = σ q := fun q hq hn => by rw [e4 q hq hn, g3 q hn]; exact f3 q hq hn
    have f5p : Fp4 σ m5 := fun j hj => by rw [e3 j hj]; exact g2 j hj
    have f5s : CSg m5 := csg_at hS f5 e6
    rw [e1, cl_s]
    rw [show spn (sgOk t (pat0 t p)) 0 12 = patK t p from rfl] at e2 e7 ⊢
    by_cases w : patK t p < 12
    · rw [if_pos w, if_pos w, if_pos rfl]
      exact ⟨m5, ⟨f5p, f5s, f5⟩, Or.inl ⟨_, rfl, rfl, e2⟩⟩
    rw [if_neg w, if_neg w, if_neg (show ¬ ((1 : Int32) = 0) by decide)]
    have w12 : patK t p = 12 := by have := spn_le (sgOk t (pat0 t p)) 12 0; unfold patK at w ⊢; omega
    rw [w12] at e2
    obtain ⟨p1, p2, p3, p4, p5⟩ := e7 w
    have hT5 : CTp m5 t := by unfold CTp; rw [f5 281 (by omega) (by decide), f5 282 (by omega) (by decide)]; exact hT
    have hF5 : CFl m5 (11 + 22 * c) (pP t (pat0 t p)) := fun l hl => by have := p3 l hl; rw [fpk_12] at this; exact this
    obtain ⟨m6, r1, r2⟩ := rules_ok hT5 ht (k0 := 11 + 22 * c) (by omega) hF5 (p := pat0 t p + 12) (by omega) e2 (by rw [e5 10 (by decide) (by decide) (by decide), g4 10 (by decide) (by decide)]; exact a3)
    have f6 : ∀ q, q < 11 + 22 * c ∨ 11 + 22 * c + 22 ≤ q → q ≠ 294 → m6 q = σ q := fun q hq hn => by rw [r1.2.1 q hn (by omega) (by omega) (by omega) (by omega)]; exact f5 q hq hn
    have f6p : Fp4 σ m6 := fun j hj => by rw [r1.1 j hj]; exact f5p j hj
    have f6q : ∀ l, l < 8 → m6 (11 + 22 * c + 1 + 5 + 2 * l) = m5 (11 + 22 * c + 1 + 5 + 2 * l) ∧ m6 (11 + 22 * c + 1 + 5 + 2 * l + 1) = m5 (11 + 22 * c + 1 + 5 + 2 * l + 1) := fun l hl => ⟨r1.2.1 _ (by omega) (by omega) (by omega) (by omega) (by omega), r1.2.1 _ (by omega) (by omega) (by omega) (by omega) (by omega)⟩
    have f6s : CSg m6 := csg_at hS f6 (fun l hl => by rw [(f6q l hl).1]; exact e6 l hl)
    have h12 : ∀ g : Nat → Bool, mkS (fun b => g b && decide (12 ≤ b + 12)) 12 = mkS g 12 := fun g => by
      congr 1
      funext b
      have : 12 ≤ b + 12 := by omega
      simp [this]
    rcases r2 with ⟨e, v1, v2, v3⟩ | ⟨x, v1, v2, v3, v4⟩
    · rw [v1, v2, cl_s, if_pos rfl]
      exact ⟨m6, ⟨f6p, f6s, f6⟩, Or.inl ⟨_, rfl, rfl, v3⟩⟩
    · rw [v1, v2, cl_s, if_neg (show ¬ ((1 : Int32) = 0) by decide)]
      refine ⟨m6, ⟨f6p, f6s, f6⟩, Or.inr ⟨_, rfl, rfl, v3, ⟨?_, ?_, ?_, ?_⟩, fun l hl => (hF5 l hl).congr (f6q l hl).1 (f6q l hl).2, ⟨?_, fun i hi => ?_⟩, v4.1, v4.2⟩⟩
      · rw [r1.2.2 0 (by decide), e5 0 (by decide) (by decide) (by decide), g3 _ (by omega), d4 0 (by decide)]; exact b0
      · rw [r1.2.2 1 (by decide), e5 1 (by decide) (by decide) (by decide), g3 _ (by omega)]; exact d6 z
      · rw [r1.2.2 2 (by decide), p1, h12 (fun b => pP t (pat0 t p) b == 48 || pP t (pat0 t p) b == 49)]; rfl
      · rw [r1.2.2 3 (by decide), p2, h12 (fun b => pP t (pat0 t p) b == 49)]; rfl
      · rw [r1.2.2 6 (by decide)]; exact p4
      · rw [r1.2.1 (11 + 22 * c + 2) (by omega) (by omega) (by omega) (by omega) (by omega)]; exact p5 i hi
