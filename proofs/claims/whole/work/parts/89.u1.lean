/-! ===== texts: the reference's forms ===== -/
theorem rrules_ok {σ : Mem} {t : Tp} (hT : RTp σ t) (ht : Tok t) {c : Nat} (hc : c < 12) {P : Nat → Nat} (hP : RPat σ c P) {p : Nat} (hp : p < 400) (h27 : σ 362 27 = nI p) (h30 : σ 362 30 = -1) (h7 : σ 367 c = 0) (kk : Mem → Option (Unit × Mem)) :
    ∃ m, fX11_readsForm_L106 kk (nI c) 5000 σ = kk m ∧ FrU c σ m ∧ ((∃ e, e < 1000 ∧ m 362 30 = nI e ∧ (rusP P t 3 0 p (fun _ => (0, 0, 0)) = .inl e ∨ ∃ x, rusP P t 3 0 p (fun _ => (0, 0, 0)) = .inr x ∧ isC t 44 x.1 = true ∧ e = x.1)) ∨ (∃ x, rusP P t 3 0 p (fun _ => (0, 0, 0)) = .inr x ∧ m 362 30 = -1 ∧ m 362 27 = nI x.1 ∧ RRl m c x.2.1 x.2.2)) := by
  have h200 := ht.1
  refine loop0 (fX11_readsForm_L106 kk (nI c)) (fX11_readsForm_L106_b kk (nI c)) (fun _ _ => rfl) 4
    (fun k m => FrU c σ m ∧ ((∃ e, e < 1000 ∧ m 362 30 = nI e ∧ (rusP P t 3 0 p (fun _ => (0, 0, 0)) = .inl e ∨ ∃ x, rusP P t 3 0 p (fun _ => (0, 0, 0)) = .inr x ∧ isC t 44 x.1 = true ∧ e = x.1)) ∨ (k ≤ 3 ∧ ∃ p' rl, p' < 400 ∧ m 362 30 = -1 ∧ m 362 27 = nI p' ∧ RRl m c k rl ∧ rusP P t 3 0 p (fun _ => (0, 0, 0)) = rusP P t (3 - k) k p' rl)))
    (fun r => ∃ m, r = kk m ∧ FrU c σ m ∧ ((∃ e, e < 1000 ∧ m 362 30 = nI e ∧ (rusP P t 3 0 p (fun _ => (0, 0, 0)) = .inl e ∨ ∃ x, rusP P t 3 0 p (fun _ => (0, 0, 0)) = .inr x ∧ isC t 44 x.1 = true ∧ e = x.1)) ∨ (∃ x, rusP P t 3 0 p (fun _ => (0, 0, 0)) = .inr x ∧ m 362 30 = -1 ∧ m 362 27 = nI x.1 ∧ RRl m c x.2.1 x.2.2))) ?_ ?_ 5000 0 σ (by omega) (by omega) ⟨⟨fun _ _ _ _ => rfl, fun _ _ _ => rfl, fun _ _ => rfl, fun _ _ => rfl⟩, Or.inr ⟨by omega, p, _, hp, h30, h27, ⟨h7, fun i hi => by omega⟩, rfl⟩⟩
  · rintro m rec ⟨g1, ⟨e, g2, g3, g4⟩ | ⟨g2, _⟩⟩
    · unfold fX11_readsForm_L106_b
      rw [g3, if_neg (nI_pos (by omega))]
      exact ⟨m, rfl, g1, Or.inl ⟨e, g2, g3, g4⟩⟩
    · omega
  · rintro k m rec hk ⟨g1, ⟨e, g2, g3, g4⟩ | ⟨g2, p', rl, g3, g4, g5, g6, e⟩⟩
    · left
      unfold fX11_readsForm_L106_b
      rw [g3, if_neg (nI_pos (by omega))]
      exact ⟨m, rfl, g1, Or.inl ⟨e, g2, g3, g4⟩⟩
    · unfold fX11_readsForm_L106_b
      have hm : RTp m t := by unfold RTp; rw [g1.2.1 28 (by decide) (by decide), g1.1 373 (by decide) (by decide) (by decide)]; exact hT
      have hPm : RPat m c P := hP.congr (g1.1 366 (by decide) (by decide) (by decide))
      have e44 := bA_eq ht (c := 44) (by decide) p'
      rw [show nI 44 = (44 : Int32) from rfl] at e44
      rw [g4, if_pos (show (-1 : Int32) < 0 by decide), g5, rat_ok hm ht (by omega), cl_s]
      by_cases z : isC t 44 p' = true
      · right
        rw [if_pos (e44.mpr z)]
        by_cases k3 : k = 3
        · subst k3
          rw [rrule3 hc g5 g4 g6.1, cl_s]
          refine ⟨_, ⟨⟨fun q x y w => by rw [sto_ne x]; exact g1.1 q x y w, fun j x y => by rw [sto_nj y]; exact g1.2.1 j x y, fun j hj => by rw [sto_ne (by decide)]; exact g1.2.2.1 j hj, fun j hj => by rw [sto_ne (by decide)]; exact g1.2.2.2 j hj⟩, Or.inl ⟨p', by omega, sto_eq, Or.inr ⟨(p', 3, rl), e, z, rfl⟩⟩⟩, rfl⟩
        · have hk3 : k < 3 := by omega
          rw [rusP_s hk3, if_pos z] at e
          obtain ⟨u, u1, u2, u3⟩ := rrule_ok hm ht hc hPm (show p' < 500 by omega) g5 g4 hk3 g6
          rw [u1, cl_s]
          have uf : FrU c σ u := ⟨fun q x y w => by rw [u2.1 q x y w]; exact g1.1 q x y w, fun j x y => by rw [u2.2.1 j x y]; exact g1.2.1 j x y, fun j hj => by rw [u2.2.2.1 j hj]; exact g1.2.2.1 j hj, fun j hj => by rw [u2.2.2.2 j hj]; exact g1.2.2.2 j hj⟩
          rcases u3 with ⟨x, v1, v2⟩ | ⟨x, v1, v2, v3, v4⟩
          · rw [v1] at e
            exact ⟨u, ⟨uf, Or.inl ⟨x, by have := ruP_l v1; omega, v2, Or.inl e⟩⟩, rfl⟩
          · rw [v1] at e
            have := (ruP_r v1).1
            exact ⟨u, ⟨uf, Or.inr ⟨by omega, x.1, _, by omega, v2, v3, v4, e⟩⟩, rfl⟩
      · left
        rw [if_neg (fun y => z (e44.mp y))]
        have e' : rusP P t 3 0 p (fun _ => (0, 0, 0)) = .inr (p', k, rl) := by
          rw [e]
          by_cases k3 : k = 3
          · subst k3; rfl
          · rw [rusP_s (by omega), if_neg z]
        exact ⟨m, rfl, g1, Or.inr ⟨(p', k, rl), e', g4, g5, g6⟩⟩
theorem r106_fault {m : Mem} {c e : Nat} (he : e < 2 ^ 31) (h30 : m 362 30 = nI e) (kk : Mem → Option (Unit × Mem)) : fX11_readsForm_L106 kk (nI c) 5000 m = kk m := by
  refine loop0 (fX11_readsForm_L106 kk (nI c)) (fX11_readsForm_L106_b kk (nI c)) (fun _ _ => rfl) 0 (fun _ s => s = m) (fun r => r = kk m) ?_ ?_ 5000 0 m (by omega) (by omega) rfl
  · rintro s rec rfl
    unfold fX11_readsForm_L106_b
    rw [h30, if_neg (nI_pos he)]
  · intro i m' rec hi
    omega
theorem rkind {σ : Mem} {t : Tp} (hT : RTp σ t) (ht : Tok t) {p : Nat} (hp : p < 1000) (h27 : σ 362 27 = nI p) (kk : Mem → Int32 → Option (Unit × Mem)) : fX11_readsForm_L4 kk 5000 σ (-1) 0 = kk σ (ansO (kdA t p)) := by
  refine loopA (fX11_readsForm_L4 kk) (fX11_readsForm_L4_b kk) (fun _ _ _ _ => rfl) 7
    (fun k m x => m = σ ∧ x = match kdA t p with | some j => if j < k then nI j else -1 | none => -1)
    (fun r => r = kk σ (ansO (kdA t p))) ?_ ?_ 5000 0 σ (-1) (by omega) (by omega) ⟨rfl, by cases kdA t p <;> rfl⟩
  · rintro m x rec ⟨rfl, rfl⟩
    unfold fX11_readsForm_L4_b
    rw [if_neg (by decide)]
    cases hk : kdA t p with
    | none => rfl
    | some k =>
      have h7 : k < 7 := by
        unfold kdA at hk
        split at hk
        · exact (kdO_iff.mp hk).1
        · cases hk
      simp only [if_pos h7]
      rfl
  · rintro k m x rec hk ⟨rfl, rfl⟩
    right
    unfold fX11_readsForm_L4_b
    rw [if_pos (show nI k < 7 from nI_lt (b := 7) hk (by decide)), ck_t (inb_nI hk (by decide)), h27, rat_ok hT ht (by omega), cl_s, ix_nI (by omega), (kdS_all k hk).2.2.2]
    simp only [lt_e]
    rw [nI_1]
    have hki := kdA_iff ht (p := p) hk
    by_cases z : kdA t p = some k
    · rw [if_pos (hki.mpr z)]
      refine ⟨_, _, ⟨rfl, ?_⟩, rfl⟩
      rw [z]
      simp only [if_pos (Nat.lt_succ_self k)]
    · rw [if_neg (fun y => z (hki.mp y))]
      refine ⟨_, _, ⟨rfl, ?_⟩, rfl⟩
      cases hj : kdA t p with
      | none => rfl
      | some j =>
        have : j ≠ k := fun y => z (by rw [hj, y])
        have e : (j < k) ↔ (j < k + 1) := by omega
        simp only [e]
abbrev FrF (c : Nat) (σ σ' : Mem) : Prop := (∀ q, q ≠ 362 → ¬ (364 ≤ q ∧ q ≤ 368) → σ' q = σ q) ∧ (∀ j, j ≠ 27 → j ≠ 29 → j ≠ 30 → σ' 362 j = σ 362 j) ∧ (∀ j, j < c → σ' 364 j = σ 364 j) ∧ (∀ j, j < 3 * c → σ' 365 j = σ 365 j) ∧ (∀ j, j < 12 * c → σ' 366 j = σ 366 j) ∧ (∀ j, j < c → σ' 367 j = σ 367 j) ∧ ∀ j, j < 9 * c → σ' 368 j = σ 368 j
theorem FrF.trans {c : Nat} {σ m σ' : Mem} (a : FrF c σ m) (b : FrF c m σ') : FrF c σ σ' :=
  ⟨fun q x y => (b.1 q x y).trans (a.1 q x y), fun j x y z => (b.2.1 j x y z).trans (a.2.1 j x y z), fun j h => (b.2.2.1 j h).trans (a.2.2.1 j h), fun j h => (b.2.2.2.1 j h).trans (a.2.2.2.1 j h), fun j h => (b.2.2.2.2.1 j h).trans (a.2.2.2.2.1 j h), fun j h => (b.2.2.2.2.2.1 j h).trans (a.2.2.2.2.2.1 j h), fun j h => (b.2.2.2.2.2.2 j h).trans (a.2.2.2.2.2.2 j h)⟩
theorem FrN.frF {c : Nat} {σ σ' : Mem} (a : FrN c σ σ') : FrF c σ σ' :=
  ⟨fun q x y => a.1 q x (by omega), fun j x _ z => a.2.1 j x z, fun j _ => by rw [a.1 364 (by decide) (by decide)], a.2.2, fun j _ => by rw [a.1 366 (by decide) (by decide)], fun j _ => by rw [a.1 367 (by decide) (by decide)], fun j _ => by rw [a.1 368 (by decide) (by decide)]⟩
theorem FrQ.frF {c : Nat} {σ σ' : Mem} (a : FrQ c σ σ') : FrF c σ σ' :=
  ⟨fun q x y => a.1 q x (by omega), fun j x _ z => a.2.1 j x z, fun j _ => by rw [a.1 364 (by decide) (by decide)], fun j _ => by rw [a.1 365 (by decide) (by decide)], a.2.2, fun j _ => by rw [a.1 367 (by decide) (by decide)], fun j _ => by rw [a.1 368 (by decide) (by decide)]⟩
theorem FrU.frF {c : Nat} {σ σ' : Mem} (a : FrU c σ σ') : FrF c σ σ' :=
  ⟨fun q x y => a.1 q x (by omega) (by omega), fun j x _ z => a.2.1 j x z, fun j _ => by rw [a.1 364 (by decide) (by decide) (by decide)], fun j _ => by rw [a.1 365 (by decide) (by decide) (by decide)], fun j _ => by rw [a.1 366 (by decide) (by decide) (by decide)], a.2.2.1, a.2.2.2⟩
theorem frF_o {c : Nat} {σ : Mem} {i : Nat} {v : Int32} (hi : i = 27 ∨ i = 29 ∨ i = 30) : FrF c σ (sto σ 362 i v) :=
  ⟨fun q x _ => sto_ne x, fun j x y z => sto_nj (by omega), fun j _ => by rw [sto_ne (by decide)], fun j _ => by rw [sto_ne (by decide)], fun j _ => by rw [sto_ne (by decide)], fun j _ => by rw [sto_ne (by decide)], fun j _ => by rw [sto_ne (by decide)]⟩
theorem frF_k {c : Nat} {σ : Mem} {q : Nat} {v : Int32} (hq : q = 364 ∨ q = 367) : FrF c σ (sto σ q c v) :=
  ⟨fun x a b => sto_ne (by omega), fun j _ _ _ => by rw [sto_ne (by omega)], fun j h => by
    by_cases e : q = 364
    · subst e; rw [sto_nj (by omega)]
    · rw [sto_ne (by omega)], fun j _ => by rw [sto_ne (by omega)], fun j _ => by rw [sto_ne (by omega)], fun j h => by
    by_cases e : q = 367
    · subst e; rw [sto_nj (by omega)]
    · rw [sto_ne (by omega)], fun j _ => by rw [sto_ne (by omega)]⟩
theorem readsForm_ok {σ : Mem} {t : Tp} (hT : RTp σ t) (ht : Tok t) {c : Nat} (hc : c ≤ 12) {G : Nat → Fm} (hG : ∀ i, i < c → ∀ x, x < 3 → σ 365 (3 * i + x) = nI (fnm (G i) x) ∧ fnm (G i) x < 256) {p : Nat} (hp : p < 300) (h27 : σ 362 27 = nI p) (h29 : σ 362 29 = nI c) (h30 : σ 362 30 = -1) :
    ∃ σ', fX11_readsForm σ = some ((), σ') ∧ FrF c σ σ' ∧ ((∃ e, e < 1000 ∧ σ' 362 30 = nI e ∧ (stP G c t p = .inl e ∨ ∃ x, stP G c t p = .inr x ∧ isC t 44 x.1 = true ∧ e = x.1)) ∨ (∃ x, stP G c t p = .inr x ∧ σ' 362 30 = -1 ∧ σ' 362 27 = nI x.1 ∧ σ' 362 29 = nI (c + 1) ∧ RRaw σ' 0 c x.2)) := by
  unfold fX11_readsForm
  rw [rkind hT ht (by omega) h27]
  have hb : ∀ e, stP G c t p = .inl e → e < 1000 := fun e => stP_l ht hp
  have h200 := ht.1
  unfold stP at hb ⊢
  cases hk : kdA t p with
  | none =>
    rw [lt_e, if_pos (show ansO none < 0 by decide), h27, wrongAt_ok h30, cl_s]
    refine ⟨_, rfl, frF_o (Or.inr (Or.inr rfl)), Or.inl ⟨p, by omega, sto_eq, Or.inl ?_⟩⟩
    by_cases c12 : c = 12
    · rw [if_pos c12]
    · rw [if_neg c12]
  | some kd =>
    rw [hk] at hb
    have h7 : kd < 7 := by
      unfold kdA at hk
      split at hk
      · exact (kdO_iff.mp hk).1
      · cases hk
    rw [lt_e, show ansO (some kd) = nI kd from rfl, if_neg (nI_pos (by omega)), h29]
    by_cases c12 : c = 12
    · rw [if_pos (show nI c = 12 by rw [c12]; rfl), h27, wrongAt_ok h30, cl_s, if_pos c12]
      exact ⟨_, rfl, frF_o (Or.inr (Or.inr rfl)), Or.inl ⟨p, by omega, sto_eq, Or.inl rfl⟩⟩
    have hc' : c < 12 := by omega
    have ic := inb_nI hc' (show 12 < 2 ^ 31 by decide)
    rw [if_neg c12] at hb
    simp only at hb
    rw [if_neg (show ¬ nI c = 12 from fun y => c12 ((nI_eq (b := 12) (by omega) (by decide)).mp y)), if_neg c12, lt_e, ck_t ic, lt_e, ix_nI (by omega), ck_t ic, lt_e, lt_e, sto_ne (show 362 ≠ 367 by decide), sto_ne (show 362 ≠ 364 by decide), h27, nI_1]
    simp only
    generalize hm : sto (sto (sto σ 364 c (nI kd)) 367 c 0) 362 27 (nI (p + 1)) = m
    have f1 : FrF c σ m := by rw [← hm]; exact (FrF.trans (frF_k (Or.inl rfl)) (FrF.trans (frF_k (Or.inr rfl)) (frF_o (Or.inl rfl))))
    have m27 : m 362 27 = nI (p + 1) := by rw [← hm, sto_eq]
    have m30 : m 362 30 = -1 := by rw [← hm, sto_nj (by decide), sto_ne (by decide), sto_ne (by decide)]; exact h30
    have m29 : m 362 29 = nI c := by rw [← hm, sto_nj (by decide), sto_ne (by decide), sto_ne (by decide)]; exact h29
    have m4 : m 364 c = nI kd := by rw [← hm, sto_ne (by decide), sto_ne (by decide), sto_eq]
    have m7 : m 367 c = 0 := by rw [← hm, sto_ne (by decide), sto_eq]
    have tp : ∀ u, FrF c σ u → RTp u t := fun u hu => by unfold RTp; rw [hu.2.1 28 (by decide) (by decide) (by decide), hu.1 373 (by decide) (by decide)]; exact hT
    obtain ⟨m1, a1, a2, a3, a4⟩ := rname_ok (tp m f1) ht hc' (G := G) (fun i hi x hx => by rw [f1.2.2.2.1 _ (by omega)]; exact hG i hi x hx) (by omega) m27 m30
    have f2 : FrF c σ m1 := f1.trans a2.frF
    have l29 : ∀ u, FrF c m1 u → u 362 29 = m1 362 29 → sto u 362 29 (u 362 29 + 1) 362 29 = nI (c + 1) := fun u _ h => by rw [sto_eq, h, a2.2.1 29 (by decide) (by decide), m29, nI_1]
    have hle := nmK_le t p
    rw [a1, cl_s, lt_e]
    by_cases z : nmK t p = 0 ∨ tkn G c t p ≠ none ∨ ¬ isC t 58 (p + 1 + nmK t p) = true
    · rw [a3 z, if_neg (nI_pos (by omega))]
      show ∃ σ', fX11_readsForm_L106 _ _ 5000 m1 = _ ∧ _
      rw [r106_fault (show p + 1 + nmK t p < 2 ^ 31 by omega) (a3 z), if_pos z]
      exact ⟨_, rfl, f2.trans (frF_o (Or.inr (Or.inl rfl))), Or.inl ⟨_, by omega, by show sto m1 362 29 _ 362 30 = _; rw [sto_nj (by decide)]; exact a3 z, Or.inl rfl⟩⟩
    obtain ⟨b30, b27, b5⟩ := a4 z
    rw [if_neg z] at hb
    have hp0 : pat0 t p < 310 := by unfold pat0; omega
    rw [b30, if_pos (show (-1 : Int32) < 0 by decide), if_neg z]
    obtain ⟨m2, c1, c2, c3, c4⟩ := rpattern_ok (tp m1 f2) ht hc' (p := pat0 t p) (by omega) b27 b30
    have f3 : FrF c σ m2 := f2.trans c2.frF
    rw [show spn (sgOk t (pat0 t p)) 0 12 = patK t p from rfl] at c3 c4
    have hpk : patK t p ≤ 12 := spn_le (sgOk t (pat0 t p)) 12 0
    rw [c1, cl_s]
    by_cases w : patK t p < 12
    · rw [if_pos w]
      show ∃ σ', fX11_readsForm_L106 _ _ 5000 m2 = _ ∧ _
      rw [r106_fault (show pat0 t p + patK t p < 2 ^ 31 by omega) (c3 w)]
      exact ⟨_, rfl, f3.trans (frF_o (Or.inr (Or.inl rfl))), Or.inl ⟨_, by omega, by show sto m2 362 29 _ 362 30 = _; rw [sto_nj (by decide)]; exact c3 w, Or.inl rfl⟩⟩
    obtain ⟨d30, d27, d6⟩ := c4 w
    rw [if_neg w] at hb
    rw [if_neg w]
    have h11 := sgOk_lt (patK_all w 11 (by decide))
    obtain ⟨m3, e1, e2, e3⟩ := rrules_ok (tp m2 f3) ht hc' d6 (p := pat0 t p + 12) (by omega) d27 d30 (by rw [c2.1 367 (by decide) (by decide), a2.1 367 (by decide) (by decide)]; exact m7) (fun (m18 : Mem) => lt (sto m18 362 29 ((m18 362 29) + (1 : Int32))) <| fun m19 => some ((), m19))
    show ∃ σ', fX11_readsForm_L106 _ _ 5000 m2 = _ ∧ _
    rw [e1, lt_e]
    have f4 : FrF c σ m3 := f3.trans e2.frF
    have n29 : m3 362 29 = nI c := by rw [e2.2.1 29 (by decide) (by decide), c2.2.1 29 (by decide) (by decide), a2.2.1 29 (by decide) (by decide)]; exact m29
    rw [n29, nI_1]
    refine ⟨_, rfl, f4.trans (frF_o (Or.inr (Or.inl rfl))), ?_⟩
    rcases e3 with ⟨e, v0, v1, v2 | ⟨x, v2, v3, v4⟩⟩ | ⟨x, v1, v2, v3, v4⟩
    · rw [v2]
      exact Or.inl ⟨e, v0, by rw [sto_nj (by decide)]; exact v1, Or.inl rfl⟩
    · rw [v2]
      exact Or.inl ⟨e, v0, by rw [sto_nj (by decide)]; exact v1, Or.inr ⟨_, rfl, v3, v4⟩⟩
    · rw [v1]
      refine Or.inr ⟨_, rfl, by rw [sto_nj (by decide)]; exact v2, by rw [sto_nj (by decide)]; exact v3, sto_eq, fun b hb => ?_, ?_, fun y hy => ?_, ?_, fun r hr => ?_⟩
      · show sto m3 362 29 _ 366 (12 * c + 11 - b) = _
        rw [sto_ne (by decide), e2.1 366 (by decide) (by decide) (by decide)]
        exact (d6.2 b hb).1
      · show sto m3 362 29 _ 364 c = _
        rw [sto_ne (by decide), e2.1 364 (by decide) (by decide) (by decide), c2.1 364 (by decide) (by decide), a2.1 364 (by decide) (by decide)]
        exact m4
      · show sto m3 362 29 _ 365 (3 * c + y) = _
        rw [sto_ne (by decide), e2.1 365 (by decide) (by decide) (by decide), c2.1 365 (by decide) (by decide)]
        exact b5 y hy
      · show sto m3 362 29 _ 367 c = _
        rw [sto_ne (by decide)]
        exact v4.1
      · show sto m3 362 29 _ 368 _ = _ ∧ sto m3 362 29 _ 368 _ = _ ∧ sto m3 362 29 _ 368 _ = _
        rw [sto_ne (by decide)]
        exact v4.2 r hr
