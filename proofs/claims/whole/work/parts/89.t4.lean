/-! ===== texts: a rule, rules, in the class ===== -/
theorem rule_ok {σ : Mem} {t : Tp} (hT : CTp σ t) (ht : Tok t) {k0 : Nat} (hk : k0 + 22 ≤ 275) {P : Nat → Nat} (hF : CFl σ k0 P) {p : Nat} (hp : p < 500) (h2 : σ 294 2 = nI p) {r : Nat} {rl : Rl} (hr : r < 3) (hR : CRl σ k0 r rl) :
    ∃ σ', FrR k0 σ σ' ∧ ((∃ e, ruP P t p = .inl e ∧ fX7_rule σ k0 = some (0, σ') ∧ σ' 294 2 = nI e) ∨ (∃ x, ruP P t p = .inr x ∧ fX7_rule σ k0 = some (1, σ') ∧ σ' 294 2 = nI x.1 ∧ CRl σ' k0 (r + 1) (fun i => if i = r then x.2 else rl i))) := by
  have frs : FrR k0 σ σ := ⟨fun _ _ => rfl, fun _ _ _ _ _ _ => rfl, fun _ _ => rfl⟩
  unfold fX7_rule ruP
  rw [h2, cat_ok hT ht (by omega), cl_s, cletA σ ht, cl_s, letter_ok hT ht hF (by omega) h2, cl_s]
  cases hl : lofA t p with
  | none =>
    rw [if_neg (show ¬ lyes P none = true from fun z => by cases z)]
    exact ⟨σ, frs, Or.inl ⟨p, rfl, rfl, h2⟩⟩
  | some l =>
    by_cases c : 0 < cnt (fp P l) 12
    case neg =>
      simp only [if_neg c]
      rw [if_neg (show ¬ lyes P (some l) = true from fun y => c (of_decide_eq_true y))]
      exact ⟨σ, frs, Or.inl ⟨p, rfl, rfl, h2⟩⟩
    simp only [if_pos c]
    rw [if_pos (show lyes P (some l) = true from decide_eq_true c)]
    simp only [lt_e]
    rw [if_neg (show ¬ ((1 : Int32) = 0) by decide), sto_eq]
    -- past a sign
    generalize hm : sto σ 294 2 (nI (p + 1)) = m
    have m2 : m 294 2 = nI (p + 1) := by rw [← hm, sto_eq]
    have mf : Fp4 σ m := fun j hj => by rw [← hm, sto_nj hj]
    have mq : ∀ q, q ≠ 294 → m q = σ q := fun q hq => by rw [← hm, sto_ne hq]
    have hTm : CTp m t := by unfold CTp; rw [mq 281 (by decide), mq 282 (by decide)]; exact hT
    rw [cat_ok hTm ht (by omega), cl_s, m2, nI_1]
    generalize hs : sto m 294 2 (nI (p + 1 + 1)) = s
    have s2 : s 294 2 = nI (p + 2) := by rw [← hs, sto_eq]
    have sf : Fp4 σ s := fun j hj => by rw [← hs, sto_nj hj]; exact mf j hj
    have sq : ∀ q, q ≠ 294 → s q = σ q := fun q hq => by rw [← hs, sto_ne hq]; exact mq q hq
    have hTs : CTp s t := by unfold CTp; rw [sq 281 (by decide), sq 282 (by decide)]; exact hT
    have hFs : CFl s k0 P := fun l hl => (hF l hl).congr (sq _ (by omega)) (sq _ (by omega))
    have hRs : ∀ (u : Mem), (∀ q, q ≠ 294 → u q = σ q) → CRl u k0 r rl := fun u hu => by
      unfold CRl
      rw [hu k0 (by omega), hu (k0 + 3) (by omega), hu (k0 + 4) (by omega), hu (k0 + 5) (by omega)]
      exact hR
    have fr1 : ∀ (u : Mem), Fp4 σ u → (∀ q, q ≠ 294 → u q = σ q) → FrR k0 σ u := fun u a b => ⟨a, fun q x _ _ _ _ => b q x, fun j _ => by rw [b k0 (by omega)]⟩
    rw [s2, cat_ok hTs ht (by omega), cl_s, cletA s ht, cl_s, letter_ok hTs ht hFs (by omega) s2, cl_s]
    have e60 := bA_eq ht (c := 60) (by decide) (p + 1)
    have e35 := bA_eq ht (c := 35) (by decide) (p + 1)
    have e47 := bA_eq ht (c := 47) (by decide) (p + 1)
    rw [show nI 60 = (60 : Int32) from rfl] at e60
    rw [show nI 35 = (35 : Int32) from rfl] at e35
    rw [show nI 47 = (47 : Int32) from rfl] at e47
    have add : ∀ (u : Mem) (sg v e : Nat), Fp4 σ u → (∀ q, q ≠ 294 → u q = σ q) → u 294 2 = nI e → ∃ σ', (cl (fX3_addRule k0 u (nI l) (nI sg) (nI v)) fun _ m16 => some ((1 : Int32), m16)) = some (1, σ') ∧ FrR k0 σ σ' ∧ σ' 294 2 = nI e ∧ CRl σ' k0 (r + 1) (fun i => if i = r then (sg, l, v) else rl i) := by
      intro u sg v e a b d
      obtain ⟨σ', a1, a2, a3, a4⟩ := addRule_ok hr (hRs u b) (by omega) sg l v
      rw [a1, cl_s]
      exact ⟨σ', rfl, ⟨fun j hj => by rw [a2.1 j hj]; exact a j hj, fun q x y z w o => by rw [a2.2.1 q x y z w o]; exact b q x, fun j hj => by rw [a2.2.2 j hj, b k0 (by omega)]⟩, by rw [a3]; exact d, a4⟩
    by_cases z60 : isC t 60 (p + 1) = true
    · have b60 := e60.mpr z60
      rw [if_pos z60, if_neg (show ¬ bA t (p + 1) = 35 by rw [b60]; decide), if_neg (show ¬ bA t (p + 1) = 47 by rw [b60]; decide), if_pos b60, if_pos b60]
      cases hj : lofA t (p + 2) with
      | none =>
        rw [if_neg (show ¬ lyes P none = true from fun z => by cases z)]
        exact ⟨s, fr1 s sf sq, Or.inl ⟨p + 2, rfl, rfl, s2⟩⟩
      | some j =>
        by_cases d : 0 < cnt (fp P j) 12
        · simp only [if_pos d]
          rw [if_pos (show lyes P (some j) = true from decide_eq_true d)]
          simp only [lt_e]
          rw [if_neg (show ¬ ((1 : Int32) = 0) by decide), b60]
          obtain ⟨σ', a1, a2, a3, a4⟩ := add (sto s 294 2 (nI (p + 2 + 1))) 60 j (p + 3) (fun j hj => by rw [sto_nj hj]; exact sf j hj) (fun q hq => by rw [sto_ne hq]; exact sq q hq) sto_eq
          exact ⟨σ', a2, Or.inr ⟨_, rfl, a1, a3, a4⟩⟩
        · simp only [if_neg d]
          rw [if_neg (show ¬ lyes P (some j) = true from fun y => d (of_decide_eq_true y)), if_pos rfl]
          exact ⟨s, fr1 s sf sq, Or.inl ⟨p + 2, rfl, rfl, s2⟩⟩
    have n60 : ¬ bA t (p + 1) = 60 := fun y => z60 (e60.mp y)
    have hk3 := spn_le (isBt t 48 57) 3 (p + 2)
    have hv := dvl_lt (t := t) (p := p + 2) (spn (isBt t 48 57) (p + 2) 3) (fun j hj => spn_all (i := p + 2) (c := 3) (by omega) (by omega))
    have h10 : dvl t (p + 2) (spn (isBt t 48 57) (p + 2) 3) < 1000 := Nat.lt_of_lt_of_le hv (Nat.pow_le_pow_right (n := 10) (by decide) hk3)
    rw [if_neg z60, if_neg n60]
    by_cases z35 : isC t 35 (p + 1) = true
    · have b35 := e35.mpr z35
      rw [if_pos z35, if_pos b35, if_pos b35]
      obtain ⟨u, u1, u2, u3, u4⟩ := numT_ok hTs ht (p := p + 2) (by omega) s2 (a := 0) (b := 255) (by decide) (by decide)
      rw [show nI 0 = (0 : Int32) from rfl, show nI 255 = (255 : Int32) from rfl] at u1
      rw [u1, cl_s]
      have uf : Fp4 σ u := fun j hj => by rw [u3 j hj]; exact sf j hj
      have uq : ∀ q, q ≠ 294 → u q = σ q := fun q hq => by rw [u4 q hq]; exact sq q hq
      have hz : (0 ≤ dvl t (p + 2) (spn (isBt t 48 57) (p + 2) 3) ∧ dvl t (p + 2) (spn (isBt t 48 57) (p + 2) 3) ≤ 255) ↔ dvl t (p + 2) (spn (isBt t 48 57) (p + 2) 3) ≤ 255 := by simp
      simp only [hz] at u2 ⊢
      by_cases d : spn (isBt t 48 57) (p + 2) 3 = 0 ∨ ¬ dvl t (p + 2) (spn (isBt t 48 57) (p + 2) 3) ≤ 255
      · rw [if_pos d] at u2
        rw [if_pos d, if_pos d]
        exact ⟨u, fr1 u uf uq, Or.inl ⟨_, rfl, if_pos rfl, u2⟩⟩
      · rw [if_neg d] at u2
        rw [if_neg d, if_neg d, if_neg (fun y => absurd (nI_pos' (show dvl t (p + 2) (spn (isBt t 48 57) (p + 2) 3) < 2 ^ 31 by omega)) (by rw [y]; decide)), b35]
        obtain ⟨σ', a1, a2, a3, a4⟩ := add u 35 (dvl t (p + 2) (spn (isBt t 48 57) (p + 2) 3)) _ uf uq u2
        exact ⟨σ', a2, Or.inr ⟨_, rfl, a1, a3, a4⟩⟩
    have n35 : ¬ bA t (p + 1) = 35 := fun y => z35 (e35.mp y)
    rw [if_neg z35, if_neg n35, if_neg n35]
    by_cases z47 : isC t 47 (p + 1) = true
    · have b47 := e47.mpr z47
      rw [if_pos z47, if_pos b47]
      obtain ⟨u, u1, u2, u3, u4⟩ := numT_ok hTs ht (p := p + 2) (by omega) s2 (a := 2) (b := 9) (by decide) (by decide)
      rw [show nI 2 = (2 : Int32) from rfl, show nI 9 = (9 : Int32) from rfl] at u1
      rw [u1, cl_s]
      have uf : Fp4 σ u := fun j hj => by rw [u3 j hj]; exact sf j hj
      have uq : ∀ q, q ≠ 294 → u q = σ q := fun q hq => by rw [u4 q hq]; exact sq q hq
      by_cases d : spn (isBt t 48 57) (p + 2) 3 = 0 ∨ ¬ (2 ≤ dvl t (p + 2) (spn (isBt t 48 57) (p + 2) 3) ∧ dvl t (p + 2) (spn (isBt t 48 57) (p + 2) 3) ≤ 9)
      · rw [if_pos d] at u2
        rw [if_pos d, if_pos d]
        exact ⟨u, fr1 u uf uq, Or.inl ⟨_, rfl, if_pos rfl, u2⟩⟩
      · rw [if_neg d] at u2
        rw [if_neg d, if_neg d, if_neg (fun y => absurd (nI_pos' (show dvl t (p + 2) (spn (isBt t 48 57) (p + 2) 3) < 2 ^ 31 by omega)) (by rw [y]; decide)), b47]
        obtain ⟨σ', a1, a2, a3, a4⟩ := add u 47 (dvl t (p + 2) (spn (isBt t 48 57) (p + 2) 3)) _ uf uq u2
        exact ⟨σ', a2, Or.inr ⟨_, rfl, a1, a3, a4⟩⟩
    rw [if_neg z47, if_neg (fun y => z47 (e47.mp y)), if_neg n60]
    exact ⟨m, fr1 m mf mq, Or.inl ⟨_, rfl, rfl, m2⟩⟩
theorem rusP_s {P : Nat → Nat} {t : Tp} {k p : Nat} {rl : Rl} (hk : k < 3) : rusP P t (3 - k) k p rl = if isC t 44 p = true then (match ruP P t (p + 1) with
    | .inl e => .inl e
    | .inr x => rusP P t (3 - (k + 1)) (k + 1) x.1 (fun i => if i = k then x.2 else rl i)) else .inr (p, k, rl) := by
  obtain ⟨j, h1, h2⟩ : ∃ j, 3 - k = j + 1 ∧ 3 - (k + 1) = j := ⟨3 - k - 1, by omega, by omega⟩
  rw [h1, h2, rusP]
  rfl
theorem rules_ok {σ : Mem} {t : Tp} (hT : CTp σ t) (ht : Tok t) {k0 : Nat} (hk : k0 + 22 ≤ 275) {P : Nat → Nat} (hF : CFl σ k0 P) {p : Nat} (hp : p < 400) (h2 : σ 294 2 = nI p) (h10 : σ k0 10 = 0) :
    ∃ σ', FrR k0 σ σ' ∧ ((∃ e, rusP P t 3 0 p (fun _ => (0, 0, 0)) = .inl e ∧ fX7_rules σ k0 = some (0, σ') ∧ σ' 294 2 = nI e) ∨ (∃ x, rusP P t 3 0 p (fun _ => (0, 0, 0)) = .inr x ∧ fX7_rules σ k0 = some (1, σ') ∧ σ' 294 2 = nI x.1 ∧ CRl σ' k0 x.2.1 x.2.2)) := by
  unfold fX7_rules
  refine loopM (fX7_rules_L2 (fun (m5 : Mem) => some ((0 : Int32), m5)) (fun (m7 : Mem) => some ((1 : Int32), m7)) k0) (fX7_rules_L2_b (fun (m5 : Mem) => some ((0 : Int32), m5)) (fun (m7 : Mem) => some ((1 : Int32), m7)) k0) (fun _ _ _ => rfl) 3
    (fun k m => FrR k0 σ m ∧ ∃ p' rl, p' < 400 ∧ m 294 2 = nI p' ∧ CRl m k0 k rl ∧ rusP P t 3 0 p (fun _ => (0, 0, 0)) = rusP P t (3 - k) k p' rl)
    (fun r => ∃ σ', FrR k0 σ σ' ∧ ((∃ e, rusP P t 3 0 p (fun _ => (0, 0, 0)) = .inl e ∧ r = some (0, σ') ∧ σ' 294 2 = nI e) ∨ (∃ x, rusP P t 3 0 p (fun _ => (0, 0, 0)) = .inr x ∧ r = some (1, σ') ∧ σ' 294 2 = nI x.1 ∧ CRl σ' k0 x.2.1 x.2.2))) ?_ ?_ 5000 0 σ (by omega) (by omega) ⟨⟨fun _ _ => rfl, fun _ _ _ _ _ _ => rfl, fun _ _ => rfl⟩, p, _, hp, h2, ⟨h10, fun i hi => by omega⟩, rfl⟩
  · rintro m rec ⟨g1, p', rl, g2, g3, g4, e⟩
    unfold fX7_rules_L2_b
    rw [if_neg (by decide)]
    exact ⟨m, g1, Or.inr ⟨(p', 3, rl), e, rfl, g3, g4⟩⟩
  · rintro k m rec hk3 ⟨g1, p', rl, g2, g3, g4, e⟩
    unfold fX7_rules_L2_b
    have hm : CTp m t := by unfold CTp; rw [g1.2.1 281 (by decide) (by omega) (by omega) (by omega) (by omega), g1.2.1 282 (by decide) (by omega) (by omega) (by omega) (by omega)]; exact hT
    rw [rusP_s hk3] at e
    rw [if_pos (show nI k < 3 from nI_lt (b := 3) hk3 (by decide)), g3, cat_ok hm ht (by omega), cl_s]
    have e44 := bA_eq ht (c := 44) (by decide) p'
    rw [show nI 44 = (44 : Int32) from rfl] at e44
    by_cases z : isC t 44 p' = true
    · rw [if_pos z] at e
      rw [if_pos (e44.mpr z), lt_e, g3, nI_1]
      have fl : FrR k0 σ (sto m 294 2 (nI (p' + 1))) := ⟨fun j hj => by rw [sto_nj hj]; exact g1.1 j hj, fun q a b c d o => by rw [sto_ne a]; exact g1.2.1 q a b c d o, fun j hj => by rw [sto_ne (by omega)]; exact g1.2.2 j hj⟩
      obtain ⟨u, u1, u2⟩ := rule_ok (σ := sto m 294 2 (nI (p' + 1))) (t := t) (P := P) (p := p' + 1) (r := k) (rl := rl) (by unfold CTp; rw [sto_ne (by decide), sto_ne (by decide)]; exact hm) ht hk (fun l hl => (hF l hl).congr (fl.2.1 _ (by omega) (by omega) (by omega) (by omega) (by omega)) (fl.2.1 _ (by omega) (by omega) (by omega) (by omega) (by omega))) (by omega) sto_eq hk3 (by unfold CRl; rw [sto_ne (by omega), sto_ne (by omega), sto_ne (by omega), sto_ne (by omega)]; exact g4)
      have uf : FrR k0 σ u := ⟨fun j hj => by rw [u1.1 j hj]; exact fl.1 j hj, fun q a b c d o => by rw [u1.2.1 q a b c d o]; exact fl.2.1 q a b c d o, fun j hj => by rw [u1.2.2 j hj]; exact fl.2.2 j hj⟩
      rcases u2 with ⟨x, v1, v2, v3⟩ | ⟨x, v1, v2, v3, v4⟩
      · left
        rw [v1] at e
        rw [v2, cl_s, if_pos rfl]
        exact ⟨u, uf, Or.inl ⟨x, e, rfl, v3⟩⟩
      · right
        rw [v1] at e
        rw [v2, cl_s, if_neg (by decide), nI_1]
        have := (ruP_r v1).1
        have := ht.1
        exact ⟨u, ⟨uf, x.1, _, by omega, v3, v4, e⟩, rfl⟩
    · left
      rw [if_neg z] at e
      rw [if_neg (fun y => z (e44.mp y))]
      exact ⟨m, g1, Or.inr ⟨(p', k, rl), e, rfl, g3, g4⟩⟩
