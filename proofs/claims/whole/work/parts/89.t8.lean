/-! ===== texts: the reference's names ===== -/
theorem isNamed_ok {σ : Mem} {c : Nat} (hc : c < 12) {G : Nat → Fm} (hG : ∀ i, i < c → ∀ x, x < 3 → σ 365 (3 * i + x) = nI (fnm (G i) x) ∧ fnm (G i) x < 256) {N : Nat → Nat} (hN : ∀ x, x < 3 → σ 365 (3 * c + x) = nI (N x) ∧ N x < 256) :
    fX11_isNamed σ (nI c) = some (if fndF (fun i => nmIs (G i) (N 0) (N 1) (N 2)) 0 c = none then 0 else 1, σ) := by
  unfold fX11_isNamed
  have j0 := inb_nI (show 3 * c < 36 by omega) (show 36 < 2 ^ 31 by decide)
  have j1 := inb_nI (show 3 * c + 1 < 36 by omega) (show 36 < 2 ^ 31 by decide)
  have j2 := inb_nI (show 3 * c + 2 < 36 by omega) (show 36 < 2 ^ 31 by decide)
  have c0 := hN 0 (by decide)
  have c1 := hN 1 (by decide)
  have c2 := hN 2 (by decide)
  rw [Nat.add_zero] at c0
  refine loopM (fX11_isNamed_L4 (fun (x6 : Int32) => ck (isB x6) (some (x6, σ))) σ (nI c)) (fX11_isNamed_L4_b (fun (x6 : Int32) => ck (isB x6) (some (x6, σ))) σ (nI c)) (fun _ _ _ => rfl) c
    (fun i x => x = if fndF (fun i => nmIs (G i) (N 0) (N 1) (N 2)) 0 i = none then 0 else 1)
    (fun r => r = some (if fndF (fun i => nmIs (G i) (N 0) (N 1) (N 2)) 0 c = none then 0 else 1, σ)) ?_ ?_ 5000 0 0 (by omega) (by omega) rfl
  · rintro x rec rfl
    unfold fX11_isNamed_L4_b
    rw [if_neg (nI_nlt (Nat.le_refl _) (by omega))]
    split <;> rfl
  · rintro i x rec hi rfl
    right
    unfold fX11_isNamed_L4_b
    have i0 := inb_nI (show 3 * i < 36 by omega) (show 36 < 2 ^ 31 by decide)
    have i1 := inb_nI (show 3 * i + 1 < 36 by omega) (show 36 < 2 ^ 31 by decide)
    have i2 := inb_nI (show 3 * i + 2 < 36 by omega) (show 36 < 2 ^ 31 by decide)
    have n0 := hG i hi 0 (by decide)
    have n1 := hG i hi 1 (by decide)
    have n2 := hG i hi 2 (by decide)
    rw [Nat.add_zero] at n0
    have hsucc := fndF_succ (fun i => nmIs (G i) (N 0) (N 1) (N 2)) i 0
    rw [Nat.zero_add] at hsucc
    rw [if_pos (nI_lt hi (by omega)), e30, e30, show nI (3 * i) + 1 = nI (3 * i + 1) from nI_1 _, show nI (3 * i) + 2 = nI (3 * i + 2) from nI_add _ 2, show nI (3 * c) + 1 = nI (3 * c + 1) from nI_1 _, show nI (3 * c) + 2 = nI (3 * c + 2) from nI_add _ 2, show nI i + 1 = nI (i + 1) from nI_1 i]
    simp only [ck_t i0, ck_t i1, ck_t i2, ck_t j0, ck_t j1, ck_t j2, lt_e, ix_nI (show 3 * i < 2 ^ 31 by omega), ix_nI (show 3 * i + 1 < 2 ^ 31 by omega), ix_nI (show 3 * i + 2 < 2 ^ 31 by omega), ix_nI (show 3 * c < 2 ^ 31 by omega), ix_nI (show 3 * c + 1 < 2 ^ 31 by omega), ix_nI (show 3 * c + 2 < 2 ^ 31 by omega), n0.1, n1.1, n2.1, c0.1, c1.1, c2.1]
    refine ⟨_, rfl, ?_⟩
    cases hf : fndF (fun i => nmIs (G i) (N 0) (N 1) (N 2)) 0 i with
    | some w =>
      rw [hsucc, hf]
      rfl
    | none =>
      rw [hsucc, hf]
      simp only [if_true]
      have q0 := nI_eq (a := fnm (G i) 0) (b := N 0) (by omega) (by omega)
      have q1 := nI_eq (a := fnm (G i) 1) (b := N 1) (by omega) (by omega)
      have q2 := nI_eq (a := fnm (G i) 2) (b := N 2) (by omega) (by omega)
      simp only [q0, q1, q2]
      by_cases a : fnm (G i) 0 = N 0
      · by_cases b : fnm (G i) 1 = N 1
        · by_cases d : fnm (G i) 2 = N 2
          · rw [if_pos a, if_pos b, if_pos d]
            simp [nmIs, a, b, d]
          · rw [if_pos a, if_pos b, if_neg d]
            simp [nmIs, d]
        · rw [if_pos a, if_neg b]
          simp [nmIs, b]
      · rw [if_neg a]
        simp [nmIs, a]
theorem e3k (c k : Nat) : (3 : Int32) * nI c + nI k = nI (3 * c + k) := by rw [e30, nI_add]
theorem e12k (c k : Nat) : (12 : Int32) * nI c + nI k = nI (12 * c + k) := by rw [show (12 : Int32) = nI 12 from rfl, pk_mul, nI_add]
/-- rows of one cell are wiped -/
theorem nameZero {c : Nat} (hc : c < 12) (σ : Mem) (kk : Mem → Option (Unit × Mem)) : ∃ m, fX11_readsName_L2 kk (nI c) 5000 σ 0 = kk m ∧ (∀ q, q ≠ 365 → m q = σ q) ∧ (∀ j, j < 3 * c → m 365 j = σ 365 j) ∧ ∀ x, x < 3 → m 365 (3 * c + x) = 0 := by
  refine loopM (fX11_readsName_L2 kk (nI c)) (fX11_readsName_L2_b kk (nI c)) (fun _ _ _ => rfl) 3
    (fun k m => (∀ q, q ≠ 365 → m q = σ q) ∧ (∀ j, j < 3 * c → m 365 j = σ 365 j) ∧ ∀ x, x < k → m 365 (3 * c + x) = 0)
    (fun r => ∃ m, r = kk m ∧ (∀ q, q ≠ 365 → m q = σ q) ∧ (∀ j, j < 3 * c → m 365 j = σ 365 j) ∧ ∀ x, x < 3 → m 365 (3 * c + x) = 0) ?_ ?_ 5000 0 σ (by omega) (by omega) ⟨fun _ _ => rfl, fun _ _ => rfl, fun x hx => by omega⟩
  · rintro m rec ⟨a, b, d⟩
    unfold fX11_readsName_L2_b
    rw [if_neg (by decide)]
    exact ⟨m, rfl, a, b, d⟩
  · rintro k m rec hk ⟨a, b, d⟩
    right
    unfold fX11_readsName_L2_b
    rw [if_pos (show nI k < 3 from nI_lt (b := 3) hk (by decide)), e3k, ck_t (inb_nI (show 3 * c + k < 36 by omega) (by decide)), lt_e, ix_nI (by omega), nI_1]
    refine ⟨_, ⟨fun q hq => by rw [sto_ne hq]; exact a q hq, fun j hj => by rw [sto_nj (by omega)]; exact b j hj, fun x hx => ?_⟩, rfl⟩
    by_cases e : x = k
    · subst e; exact sto_eq
    · rw [sto_nj (by omega)]; exact d x (by omega)
theorem patZero {c : Nat} (hc : c < 12) (σ : Mem) (kk : Mem → Option (Unit × Mem)) : ∃ m, fX11_readsPattern_L2 kk (nI c) 5000 σ 0 = kk m ∧ (∀ q, q ≠ 366 → m q = σ q) ∧ (∀ j, j < 12 * c → m 366 j = σ 366 j) ∧ ∀ x, x < 12 → m 366 (12 * c + x) = 0 := by
  refine loopM (fX11_readsPattern_L2 kk (nI c)) (fX11_readsPattern_L2_b kk (nI c)) (fun _ _ _ => rfl) 12
    (fun k m => (∀ q, q ≠ 366 → m q = σ q) ∧ (∀ j, j < 12 * c → m 366 j = σ 366 j) ∧ ∀ x, x < k → m 366 (12 * c + x) = 0)
    (fun r => ∃ m, r = kk m ∧ (∀ q, q ≠ 366 → m q = σ q) ∧ (∀ j, j < 12 * c → m 366 j = σ 366 j) ∧ ∀ x, x < 12 → m 366 (12 * c + x) = 0) ?_ ?_ 5000 0 σ (by omega) (by omega) ⟨fun _ _ => rfl, fun _ _ => rfl, fun x hx => by omega⟩
  · rintro m rec ⟨a, b, d⟩
    unfold fX11_readsPattern_L2_b
    rw [if_neg (by decide)]
    exact ⟨m, rfl, a, b, d⟩
  · rintro k m rec hk ⟨a, b, d⟩
    right
    unfold fX11_readsPattern_L2_b
    rw [if_pos (show nI k < 12 from nI_lt (b := 12) hk (by decide)), e12k, ck_t (inb_nI (show 12 * c + k < 144 by omega) (by decide)), lt_e, ix_nI (by omega), nI_1]
    refine ⟨_, ⟨fun q hq => by rw [sto_ne hq]; exact a q hq, fun j hj => by rw [sto_nj (by omega)]; exact b j hj, fun x hx => ?_⟩, rfl⟩
    by_cases e : x = k
    · subst e; exact sto_eq
    · rw [sto_nj (by omega)]; exact d x (by omega)
abbrev FrN (c : Nat) (σ σ' : Mem) : Prop := (∀ q, q ≠ 362 → q ≠ 365 → σ' q = σ q) ∧ (∀ j, j ≠ 27 → j ≠ 30 → σ' 362 j = σ 362 j) ∧ ∀ j, j < 3 * c → σ' 365 j = σ 365 j
theorem nmF_256 {t : Tp} (ht : Tok t) (p x : Nat) : nmF t p x < 256 := by
  unfold nmF
  split
  · have := (nmK_all (t := t) (p := p) (j := x) (by assumption))
    exact ht.2 _ this.2
  · omega
theorem rname_ok {σ : Mem} {t : Tp} (hT : RTp σ t) (ht : Tok t) {c : Nat} (hc : c < 12) {G : Nat → Fm} (hG : ∀ i, i < c → ∀ x, x < 3 → σ 365 (3 * i + x) = nI (fnm (G i) x) ∧ fnm (G i) x < 256) {p : Nat} (hp : p < 500) (h27 : σ 362 27 = nI (p + 1)) (h30 : σ 362 30 = -1) :
    ∃ σ', fX11_readsName σ (nI c) = some ((), σ') ∧ FrN c σ σ' ∧ ((nmK t p = 0 ∨ tkn G c t p ≠ none ∨ ¬ isC t 58 (p + 1 + nmK t p) = true) → σ' 362 30 = nI (p + 1 + nmK t p)) ∧ (¬ (nmK t p = 0 ∨ tkn G c t p ≠ none ∨ ¬ isC t 58 (p + 1 + nmK t p) = true) → σ' 362 30 = -1 ∧ σ' 362 27 = nI (pat0 t p) ∧ ∀ x, x < 3 → σ' 365 (3 * c + x) = nI (nmF t p x)) := by
  have hle := nmK_le t p
  unfold fX11_readsName
  generalize hk1 : (fun (m11 : Mem) (x12 : Int32) =>
          lt (fun (m13 : Mem) =>
            cl (fX11_wrongAt m13 (m13 362 27)) <| fun _ m14 =>
            some ((), m14)) <| fun j104 =>
          if x12 = (0 : Int32) then
            j104 m11
          else
            cl (fX11_byteAt m11 (m11 362 27)) <| fun r16 m15 =>
            if r16 = (58 : Int32) then
              cl (fX11_isNamed m15 (nI c)) <| fun r18 m17 =>
              if r18 = (0 : Int32) then
                lt (sto m17 362 27 ((m17 362 27) + (1 : Int32))) <| fun m19 =>
                some ((), m19)
              else
                j104 m17
            else
              j104 m15) = kk
  obtain ⟨m0, a1, a2, a3, a4⟩ := nameZero hc σ (fun (m5 : Mem) => fX11_readsName_L26 kk (nI c) 5000 m5 (0 : Int32))
  rw [a1]
  have h58 := bA_eq ht (c := 58) (by decide) (p + 1 + nmK t p)
  rw [show nI 58 = (58 : Int32) from rfl] at h58
  have fin : ∀ m, m 362 27 = nI (p + 1 + nmK t p) → m 362 30 = -1 → FrN c σ m → (∀ x, x < 3 → m 365 (3 * c + x) = nI (nmF t p x)) → ∃ σ', kk m (nI (nmK t p)) = some ((), σ') ∧ FrN c σ σ' ∧ ((nmK t p = 0 ∨ tkn G c t p ≠ none ∨ ¬ isC t 58 (p + 1 + nmK t p) = true) → σ' 362 30 = nI (p + 1 + nmK t p)) ∧ (¬ (nmK t p = 0 ∨ tkn G c t p ≠ none ∨ ¬ isC t 58 (p + 1 + nmK t p) = true) → σ' 362 30 = -1 ∧ σ' 362 27 = nI (pat0 t p) ∧ ∀ x, x < 3 → σ' 365 (3 * c + x) = nI (nmF t p x)) := by
    intro m g1 g2 g3 g4
    rw [← hk1]
    show ∃ σ', (if nI (nmK t p) = 0 then cl (fX11_wrongAt m (m 362 27)) _ else cl (fX11_byteAt m (m 362 27)) _) = _ ∧ _
    have hm : RTp m t := by unfold RTp; rw [g3.2.1 28 (by decide) (by decide), g3.1 373 (by decide) (by decide)]; exact hT
    have wf : FrN c σ (sto m 362 30 (nI (p + 1 + nmK t p))) := ⟨fun q a b => by rw [sto_ne a]; exact g3.1 q a b, fun j a b => by rw [sto_nj b]; exact g3.2.1 j a b, fun j hj => by rw [sto_ne (by decide)]; exact g3.2.2 j hj⟩
    rw [g1]
    by_cases z : nmK t p = 0
    · rw [if_pos (by rw [z]; rfl), wrongAt_ok g2, cl_s]
      exact ⟨_, rfl, wf, fun _ => sto_eq, fun y => absurd (Or.inl z) y⟩
    rw [if_neg (nI_ne0 (by omega) (by omega)), rat_ok hm ht (by omega), cl_s]
    by_cases y : isC t 58 (p + 1 + nmK t p) = true
    · rw [if_pos (h58.mpr y), isNamed_ok hc (G := G) (N := nmF t p) (fun i hi x hx => by rw [g3.2.2 _ (by omega)]; exact hG i hi x hx) (fun x hx => ⟨g4 x hx, nmF_256 ht p x⟩), cl_s]
      show ∃ σ', (if (if tkn G c t p = none then (0 : Int32) else 1) = 0 then _ else _) = _ ∧ _
      by_cases w : tkn G c t p = none
      · rw [if_pos w, if_pos rfl, lt_e, g1, nI_1]
        exact ⟨_, rfl, ⟨fun q a b => by rw [sto_ne a]; exact g3.1 q a b, fun j a b => by rw [sto_nj a]; exact g3.2.1 j a b, fun j hj => by rw [sto_ne (by decide)]; exact g3.2.2 j hj⟩, fun v => by rcases v with v | v | v; exact absurd v z; exact absurd w v; exact absurd y v, fun _ => ⟨by rw [sto_nj (by decide)]; exact g2, sto_eq, fun x hx => by rw [sto_ne (by decide)]; exact g4 x hx⟩⟩
      · rw [if_neg w, if_neg (show ¬ ((1 : Int32) = 0) by decide)]
        show ∃ σ', cl (fX11_wrongAt m (m 362 27)) _ = _ ∧ _
        rw [g1, wrongAt_ok g2, cl_s]
        exact ⟨_, rfl, wf, fun _ => sto_eq, fun v => absurd (Or.inr (Or.inl w)) v⟩
    · rw [if_neg (fun v => y (h58.mp v))]
      show ∃ σ', cl (fX11_wrongAt m (m 362 27)) _ = _ ∧ _
      rw [g1, wrongAt_ok g2, cl_s]
      exact ⟨_, rfl, wf, fun _ => sto_eq, fun v => absurd (Or.inr (Or.inr y)) v⟩
  refine loopM (fX11_readsName_L26 kk (nI c)) (fX11_readsName_L26_b kk (nI c)) (fun _ _ _ => rfl) 3
    (fun k m => m 362 27 = nI (p + 1 + k) ∧ m 362 30 = -1 ∧ FrN c σ m ∧ (∀ x, x < 3 → m 365 (3 * c + x) = if x < k then nI (t.2 (p + 1 + x)) else 0) ∧ nmK t p = k + spn (isBt t 97 122) (p + 1 + k) (3 - k))
    (fun r => ∃ σ', r = some ((), σ') ∧ FrN c σ σ' ∧ ((nmK t p = 0 ∨ tkn G c t p ≠ none ∨ ¬ isC t 58 (p + 1 + nmK t p) = true) → σ' 362 30 = nI (p + 1 + nmK t p)) ∧ (¬ (nmK t p = 0 ∨ tkn G c t p ≠ none ∨ ¬ isC t 58 (p + 1 + nmK t p) = true) → σ' 362 30 = -1 ∧ σ' 362 27 = nI (pat0 t p) ∧ ∀ x, x < 3 → σ' 365 (3 * c + x) = nI (nmF t p x))) ?_ ?_ 5000 0 m0 (by omega) (by omega) ⟨by rw [a2 362 (by decide)]; exact h27, by rw [a2 362 (by decide)]; exact h30, ⟨fun q a b => a2 q b, fun j _ _ => by rw [a2 362 (by decide)], a3⟩, fun x hx => by rw [if_neg (by omega)]; exact a4 x hx, by rw [Nat.zero_add]; rfl⟩
  · rintro m rec ⟨g1, g2, g3, g4, e⟩
    unfold fX11_readsName_L26_b
    rw [if_neg (by decide)]
    have e' : nmK t p = 3 := e
    have := fin m (by rw [g1, e']) g2 g3 (fun x hx => by rw [g4 x hx]; unfold nmF; rw [e', if_pos hx, if_pos hx])
    rw [e'] at this ⊢
    exact this
  · rintro k m rec hk ⟨g1, g2, g3, g4, e⟩
    unfold fX11_readsName_L26_b
    have hm : RTp m t := by unfold RTp; rw [g3.2.1 28 (by decide) (by decide), g3.1 373 (by decide) (by decide)]; exact hT
    rw [if_pos (show nI k < 3 from nI_lt (b := 3) hk (by decide)), g1, rat_ok hm ht (by omega), cl_s, rin ht, cl_s]
    rw [spn_s (q := isBt t 97 122) (i := p + 1 + k) hk] at e
    by_cases z : isBt t 97 122 (p + 1 + k) = true
    · right
      have hz := isBt_lt z
      rw [if_pos z] at e
      have hbA : bA t (p + 1 + k) = nI (t.2 (p + 1 + k)) := by unfold bA; rw [if_pos hz.1]
      rw [if_pos z, if_neg (by decide), g1, rat_ok hm ht (by omega), cl_s, e3k, ck_t (inb_nI (show 3 * c + k < 36 by omega) (by decide)), lt_e, lt_e, ix_nI (by omega), sto_ne (by decide), g1, nI_1, nI_1, hbA]
      refine ⟨_, ⟨sto_eq, by rw [sto_nj (by decide), sto_ne (by decide)]; exact g2, ⟨fun q a b => by rw [sto_ne a, sto_ne b]; exact g3.1 q a b, fun j a b => by rw [sto_nj a, sto_ne (by decide)]; exact g3.2.1 j a b, fun j hj => by rw [sto_ne (by decide), sto_nj (by omega)]; exact g3.2.2 j hj⟩, fun x hx => ?_, by rw [show p + 1 + (k + 1) = p + 1 + k + 1 by omega]; omega⟩, rfl⟩
      rw [sto_ne (by decide)]
      by_cases y : x = k
      · subst y; rw [sto_eq, if_pos (by omega)]
      · rw [sto_nj (by omega), g4 x hx]
        have : (x < k) ↔ (x < k + 1) := by omega
        simp only [this]
    · left
      rw [if_neg z] at e
      have e' : nmK t p = k := by omega
      rw [if_neg z, if_pos rfl]
      have := fin m (by rw [g1, e']) g2 g3 (fun x hx => by rw [g4 x hx]; unfold nmF; rw [e']; split <;> rfl)
      rw [e'] at this ⊢
      exact this
