/-! ===== texts: the class ===== -/
theorem statement_ok2 {σ : Mem} {t : Tp} (hT : CTp σ t) (ht : Tok t) (hS : CSg σ) {c : Nat} (hc : c ≤ 12) {G : Nat → Fm} (hG : ∀ i, i < c → σ (11 + 22 * i) 1 = nI (nmC (G i)) ∧ Nok (G i)) {p : Nat} (hp : p < 300) (h2 : σ 294 2 = nI p) (h3 : σ 294 3 = nI c) :
    ∃ σ', (Fp4 σ σ' ∧ CSg σ' ∧ ∀ q, q < 11 + 22 * c ∨ 11 + 22 * c + 22 ≤ q ∨ 275 ≤ q → q ≠ 294 → σ' q = σ q) ∧ ((∃ e, stP G c t p = .inl e ∧ fX7_statement σ = some (0, σ') ∧ σ' 294 2 = nI e) ∨ (∃ x, stP G c t p = .inr x ∧ fX7_statement σ = some (1, σ') ∧ σ' 294 2 = nI x.1 ∧ CForm σ' (11 + 22 * c) x.2)) := by
  by_cases c12 : c = 12
  · subst c12
    unfold fX7_statement stP
    rw [h3, if_neg (show ¬ nI 12 < 12 by decide), if_pos rfl]
    exact ⟨σ, ⟨fun _ _ => rfl, hS, fun _ _ _ => rfl⟩, Or.inl ⟨p, rfl, rfl, h2⟩⟩
  · obtain ⟨σ', ⟨a, b, d⟩, e⟩ := statement_ok hT ht hS hc hG hp h2 h3
    exact ⟨σ', ⟨a, b, fun q hq => d q (by omega)⟩, e⟩
theorem fault_loop {σ : Mem} {t : Tp} (hT : CTp σ t) (ht : Tok t) (hS : CSg σ) {n : Nat} {F : Nat → Fm} (hC : CForms σ n F) (hA : AOkF n F) (k31 k60 k82 k93 : Mem → Option (Int32 × Mem)) (e31 : ∀ m, k31 m = some (m 294 2, m)) (e60 : ∀ m, k60 m = some (-1, sto m 9 1 (m 294 3))) (e82 : ∀ m, k82 m = some (m 294 2, m)) (e93 : ∀ m, k93 m = some (m 294 2, m)) :
    ∃ σ', (∀ q, q < 11 + 22 * n ∨ 275 ≤ q → q ≠ 294 → q ≠ 9 → σ' q = σ q) ∧ CSg σ' ∧ ((∃ e, txP t 13 n 0 F = .inl e ∧ fX7_fault_L18 k31 k60 k82 k93 5000 (sto (sto σ 294 2 0) 294 3 (nI n)) 0 = some (nI e, σ') ∧ σ' 9 = σ 9) ∨ (∃ x, txP t 13 n 0 F = .inr x ∧ fX7_fault_L18 k31 k60 k82 k93 5000 (sto (sto σ 294 2 0) 294 3 (nI n)) 0 = some (-1, σ') ∧ CForms σ' x.1 x.2)) := by
  have hn := hC.2.1
  have h200 := ht.1
  refine loopM (fX7_fault_L18 k31 k60 k82 k93) (fX7_fault_L18_b k31 k60 k82 k93) (fun _ _ _ => rfl) 13
    (fun k m => (∀ q, q < 11 + 22 * n ∨ 275 ≤ q → q ≠ 294 → m q = σ q) ∧ CSg m ∧ ∃ c p G, n ≤ c ∧ c ≤ 12 ∧ p < 300 ∧ m 294 2 = nI p ∧ m 294 3 = nI c ∧ (∀ i, i < c → CForm m (11 + 22 * i) (G i) ∧ Fok (G i)) ∧ AOkF c G ∧ txP t 13 n 0 F = txP t (13 - k) c p G)
    (fun r => ∃ σ', (∀ q, q < 11 + 22 * n ∨ 275 ≤ q → q ≠ 294 → q ≠ 9 → σ' q = σ q) ∧ CSg σ' ∧ ((∃ e, txP t 13 n 0 F = .inl e ∧ r = some (nI e, σ') ∧ σ' 9 = σ 9) ∨ (∃ x, txP t 13 n 0 F = .inr x ∧ r = some (-1, σ') ∧ CForms σ' x.1 x.2))) ?_ ?_ 5000 0 (sto (sto σ 294 2 0) 294 3 (nI n)) (by omega) (by omega) ⟨fun q _ hq => by rw [sto_ne hq, sto_ne hq], fun i l hi hl => by rw [sto_ne (by omega), sto_ne (by omega)]; exact hS i l hi hl, n, 0, F, Nat.le_refl _, hn, by omega, by rw [sto_nj (by decide), sto_eq]; rfl, sto_eq, fun i hi => ⟨(hC.2.2 i hi).1.congr (fun q a b => by rw [sto_ne (by omega), sto_ne (by omega)]), (hC.2.2 i hi).2⟩, hA, rfl⟩
  · rintro m rec ⟨g1, g2, c, p, G, g3, g4, g5, g6, g7, g8, g9, e⟩
    unfold fX7_fault_L18_b
    rw [if_pos (by decide)]
    rw [e93, g6]
    exact ⟨m, fun q a b _ => g1 q a b, g2, Or.inl ⟨p, e, rfl, g1 9 (by omega) (by decide)⟩⟩
  · rintro k m rec hk ⟨g1, g2, c, p, G, g3, g4, g5, g6, g7, g8, g9, e⟩
    unfold fX7_fault_L18_b
    have hm : CTp m t := by unfold CTp; rw [g1 281 (by omega) (by decide), g1 282 (by omega) (by decide)]; exact hT
    rw [txP_s hk] at e
    rw [if_neg (show ¬ 12 < nI k from nI_nlt (a := 12) (by omega) (by decide))]
    obtain ⟨u, ⟨u1, u2, u3⟩, u4⟩ := statement_ok2 hm ht g2 g4 (G := G) (fun i hi => ⟨(g8 i hi).1.1.2.1, (g9 i hi).1⟩) g5 g6 g7
    have uq : ∀ q, q < 11 + 22 * n ∨ 275 ≤ q → q ≠ 294 → u q = σ q := fun q a b => by rw [u3 q (by omega) b]; exact g1 q a b
    rcases u4 with ⟨x, v1, v2, v3⟩ | ⟨x, v1, v2, v3, v4⟩
    · left
      rw [v1] at e
      rw [v2, cl_s, if_pos rfl]
      rw [e31, v3]
      exact ⟨u, fun q a b _ => uq q a b, u2, Or.inl ⟨x, e, rfl, uq 9 (by omega) (by decide)⟩⟩
    · rw [v1] at e
      simp only at e
      have hs := stP_r ht v1 g4
      rw [v2, cl_s, if_neg (show ¬ ((1 : Int32) = 0) by decide), lt_e, u1 3 (by decide), g7, nI_1]
      generalize hw : sto u 294 3 (nI (c + 1)) = w
      have w2 : w 294 2 = nI x.1 := by rw [← hw, sto_nj (by decide)]; exact v3
      have w3 : w 294 3 = nI (c + 1) := by rw [← hw, sto_eq]
      have wq : ∀ q, q ≠ 294 → w q = u q := fun q hq => by rw [← hw, sto_ne hq]
      have w81 : w 281 1 = nI t.1 := by rw [wq 281 (by decide), u3 281 (by omega) (by decide)]; exact hm.1
      have wT : CTp w t := by unfold CTp; rw [wq 281 (by decide), wq 282 (by decide), u3 281 (by omega) (by decide), u3 282 (by omega) (by decide)]; exact hm
      have wS : CSg w := fun i l hi hl => by rw [wq _ (by omega)]; exact u2 i l hi hl
      have wF : ∀ i, i < c + 1 → CForm w (11 + 22 * i) (updF G c x.2 i) ∧ Fok (updF G c x.2 i) := fun i hi => by
        by_cases z : i = c
        · subst z
          rw [updF_new]
          exact ⟨v4.congr (fun q a b => wq q (by omega)), hs.2.2.1⟩
        · rw [updF_old (by omega)]
          exact ⟨(g8 i (by omega)).1.congr (fun q a b => by rw [wq q (by omega), u3 q (by omega) (by omega)]), (g8 i (by omega)).2⟩
      rw [w2, w81]
      by_cases z : x.1 = t.1
      · left
        rw [if_pos z] at e
        rw [if_pos (by rw [z])]
        rw [e60, w3]
        refine ⟨_, fun q a b d => by rw [sto_ne d, wq q b]; exact uq q a b, fun i l hi hl => by rw [sto_ne (by omega)]; exact wS i l hi hl, Or.inr ⟨_, e, rfl, sto_eq, by show c + 1 ≤ 12; omega, fun i hi => ⟨(wF i hi).1.congr (fun q a b => sto_ne (by omega)), (wF i hi).2⟩⟩⟩
      · rw [if_neg z] at e
        rw [if_neg (fun y => z ((nI_eq (by omega) (by omega)).mp y)), show (59 : Int32) = nI 59 from rfl, sign_ok wT ht (by omega) w2 (by decide), cl_s]
        by_cases y : isC t 59 x.1 = true
        · right
          rw [if_pos y] at e
          rw [if_pos y]
          show ∃ m', _ ∧ (if (1 : Int32) = 0 then _ else rec (sto w 294 2 (nI (x.1 + 1))) (nI k + 1)) = _
          rw [if_neg (by decide), nI_1]
          refine ⟨_, ⟨fun q a b => by rw [sto_ne b, wq q b]; exact uq q a b, fun i l hi hl => by rw [sto_ne (by omega)]; exact wS i l hi hl, c + 1, x.1 + 1, _, by omega, by omega, by omega, sto_eq, by rw [sto_nj (by decide)]; exact w3, fun i hi => ⟨(wF i hi).1.congr (fun q a b => sto_ne (by omega)), (wF i hi).2⟩, AOkF_upd g9 hs.2.2.2.1 hs.2.2.2.2, e⟩, rfl⟩
        · left
          rw [if_neg y] at e
          rw [if_neg y]
          simp only [if_true]
          rw [e82, w2]
          exact ⟨w, fun q a b _ => by rw [wq q b]; exact uq q a b, wS, Or.inl ⟨x.1, e, rfl, by rw [wq 9 (by decide)]; exact uq 9 (by omega) (by decide)⟩⟩
theorem fault_ok {σ : Mem} {t : Tp} (hT : CTp σ t) (ht : Tok t) (hS : CSg σ) {n : Nat} {F : Nat → Fm} (hC : CForms σ n F) (hA : AOkF n F) :
    ∃ σ', (∀ q, q < 11 + 22 * n ∨ 275 ≤ q → q ≠ 294 → q ≠ 9 → σ' q = σ q) ∧ CSg σ' ∧ ((∃ e, txP t 13 n 0 F = .inl e ∧ fX7_fault σ = some (nI e, σ') ∧ σ' 9 = σ 9) ∨ (∃ x, txP t 13 n 0 F = .inr x ∧ fX7_fault σ = some (-1, σ') ∧ CForms σ' x.1 x.2)) := by
  unfold fX7_fault
  rw [lt_e, lt_e, show sto σ 294 2 0 9 1 = nI n by rw [sto_ne (by decide)]; exact hC.1]
  exact fault_loop hT ht hS hC hA _ _ _ _ (fun _ => rfl) (fun _ => rfl) (fun _ => rfl) (fun _ => rfl)
theorem cs_text : CSa fX10_text gText := by
  intro σ A h ha
  have hn := h.mean.1.2.1
  have ht : Tok (A.tc, A.tp) := ⟨h.tape.2.1, fun i hi => (h.tape.2.2 i hi).2⟩
  have hT : CTp σ (A.tc, A.tp) := ⟨h.tape.1, fun i hi => (h.tape.2.2 i hi).1⟩
  obtain ⟨s, f1, f2, f3⟩ := fault_ok hT ht h.sg h.mean.1 ha
  unfold fX10_text gText
  have hq : ∀ (u : Mem), (∀ q, q ≠ 281 → u q = s q) → ∀ q, q < 9 ∨ 275 ≤ q → q ≠ 281 → q ≠ 294 → u q = σ q := fun u hu q a b d => by rw [hu q b]; exact f1 q (by omega) d (by omega)
  rcases f3 with ⟨e, v1, v2, v3⟩ | ⟨x, v1, v2, v3⟩
  · rw [v1, v2, cl_s, lt_e, if_neg (fun y => absurd (nI_pos' (show e < 2 ^ 31 by have := txP_l ht (k := 13) hn (by omega) v1; omega)) (by rw [y]; decide))]
    have u := hq (sto s 281 1 0) (fun q hq => sto_ne hq)
    have u9 : ∀ q, 9 ≤ q → q < 11 + 22 * A.n → sto s 281 1 0 q = σ q := fun q a b => by
      rw [sto_ne (by omega)]
      by_cases z : q = 9
      · subst z; exact v3
      · exact f1 q (by omega) (by omega) z
    refine ⟨_, rfl, ⟨⟨⟨by rw [u9 9 (by decide) (by omega)]; exact h.mean.1.1, hn, fun i hi => ⟨(h.mean.1.2.2 i hi).1.congr (fun q a b => u9 q (by omega) (by have : i < A.n := hi; omega)), (h.mean.1.2.2 i hi).2⟩⟩, fun i hi => by rw [u 277 (by decide) (by decide) (by decide)]; exact h.mean.2.1 i hi, fun w hw => by rw [u 276 (by decide) (by decide) (by decide)]; exact h.mean.2.2 w hw⟩, fun i l hi hl => by rw [sto_ne (by omega)]; exact f2 i l hi hl, h.thr.congr (fun q a b _ _ => u q (by omega) (by omega) (by omega)), ⟨sto_eq, Nat.zero_le _, fun i hi => absurd hi (Nat.not_lt_zero i)⟩, h.line.congr (u _ (by decide) (by decide) (by decide)) (u _ (by decide) (by decide) (by decide)), ⟨h.now.1.congr (fun q a b => u q (by omega) (by omega) (by omega)), h.now.2⟩, h.past.congr (by rw [u 0 (by decide) (by decide) (by decide)]) (by rw [u 0 (by decide) (by decide) (by decide)]) (fun q a b => u q (by omega) (by omega) (by omega)), h.kept.congr (by rw [u 0 (by decide) (by decide) (by decide)]) (fun q a b => u q (by omega) (by omega) (by omega)), fun i hi => by rw [u 8 (by decide) (by decide) (by decide)]; exact h.ref i hi⟩, fun k hk => u k (by omega) (by omega) (by omega)⟩
  · have hx := txP_r ht hn ha (fun i hi => (h.mean.1.2.2 i hi).2) v1
    rw [v1, v2, cl_s, lt_e, if_pos rfl, lt_e]
    have hC : CForms (sto (sto s 281 1 0) 0 13 0) x.1 x.2 := v3.congr (fun q a b => by rw [sto_ne (by omega), sto_ne (by omega)])
    obtain ⟨w, c1, c2, c3, c4⟩ := forget_ok hC
    rw [c1, cl_s, c2.1.1]
    have w0 : ∀ j, j ≠ 13 → w 0 j = σ 0 j := fun j hj => by rw [c4 0 (by decide) (by decide) (by decide), sto_nj hj, sto_ne (by decide), f1 0 (by omega) (by decide) (by decide)]
    have w13 : w 0 13 = 0 := by rw [c4 0 (by decide) (by decide) (by decide), sto_eq]
    have u : ∀ q, 0 < q → q < 9 ∨ 278 ≤ q → q ≠ 281 → q ≠ 294 → w q = σ q := fun q a b d o => by rw [c4 q (by omega) (by omega) (by omega), sto_ne (by omega), sto_ne d]; exact f1 q (by omega) o (by omega)
    have w281 : w 281 1 = 0 := by rw [c4 281 (by decide) (by decide) (by decide), sto_ne (by decide), sto_eq]
    refine ⟨w, rfl, ⟨c2, fun i l hi hl => by rw [c4 _ (by omega) (by omega) (by omega), sto_ne (by omega), sto_ne (by omega)]; exact f2 i l hi hl, c3, ⟨w281, Nat.zero_le _, fun i hi => absurd hi (Nat.not_lt_zero i)⟩, h.line.congr (u _ (by decide) (by decide) (by decide) (by decide)) (u _ (by decide) (by decide) (by decide) (by decide)), ⟨h.now.1.congr (fun q a b => u q (by omega) (by omega) (by omega) (by omega)), h.now.2⟩, ?_, ?_, fun i hi => by rw [u 8 (by decide) (by decide) (by decide) (by decide)]; exact h.ref i hi⟩, fun k hk => u k (by omega) (by omega) (by omega) (by omega)⟩
    · obtain ⟨p1, p2, p0, p3, p4, p5⟩ := h.past
      exact ⟨w13, Nat.zero_le _, p0, p3, (w0 12 (by decide)).trans p4, fun t ht => absurd ht (Nat.not_lt_zero t)⟩
    · have hk := h.kept
      revert hk
      show CKept σ A.n A.kept → CKept w x.1 A.kept
      cases A.kept with
      | none => intro hk; exact (w0 10 (by decide)).trans hk
      | some y =>
        rintro ⟨k1, k2, k3, k4⟩
        exact ⟨(w0 10 (by decide)).trans k1, by omega, k3.congr (fun q a b => u q (by omega) (by omega) (by omega) (by omega)), k4⟩
