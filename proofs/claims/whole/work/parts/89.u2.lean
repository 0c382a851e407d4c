/-! ===== texts: the reference ===== -/
theorem RRaw.rows {σ σ' : Mem} {c i : Nat} {f : Fm} (h : RRaw σ 0 i f) (hf : Fok f) (hi : i < c) (a : FrF c σ σ') : RRaw σ' 0 i f := by
  have h3 := hf.2.2.2.1
  obtain ⟨h1, h2, h4, h5, h6⟩ := h
  refine ⟨fun b hb => ?_, ?_, fun x hx => ?_, ?_, fun r hr => ?_⟩
  · exact (a.2.2.2.2.1 (12 * i + 11 - b) (by omega)).trans (h1 b hb)
  · exact (a.2.2.1 i hi).trans h2
  · exact (a.2.2.2.1 (3 * i + x) (by omega)).trans (h4 x hx)
  · exact (a.2.2.2.2.2.1 i hi).trans h5
  · have := h6 r hr
    exact ⟨(a.2.2.2.2.2.2 (9 * i + 3 * r) (by omega)).trans this.1, (a.2.2.2.2.2.2 (9 * i + 3 * r + 1) (by omega)).trans this.2.1, (a.2.2.2.2.2.2 (9 * i + 3 * r + 2) (by omega)).trans this.2.2⟩
theorem FrF.le {c n : Nat} {σ σ' : Mem} (a : FrF c σ σ') (h : n ≤ c) : FrF n σ σ' :=
  ⟨a.1, a.2.1, fun j hj => a.2.2.1 j (by omega), fun j hj => a.2.2.2.1 j (by omega), fun j hj => a.2.2.2.2.1 j (by omega), fun j hj => a.2.2.2.2.2.1 j (by omega), fun j hj => a.2.2.2.2.2.2 j (by omega)⟩
/-- what the memory is when a text is being read -/
theorem rtext_fault {σ m : Mem} {A : Ab} (h : RInv σ A) (s : Mem) (hs : ∀ q, q ≠ 362 → s q = σ q) (ho : ∀ j, j ≠ 13 → j ≠ 27 → j ≠ 28 → j ≠ 29 → j ≠ 30 → s 362 j = σ 362 j) (h13 : s 362 13 = 0) (a : FrF A.n s m) : RInv m (setT A 0 A.tp) ∧ ∀ k, k < 362 → m k = σ k := by
  have q : ∀ q, q ≠ 362 → ¬ (364 ≤ q ∧ q ≤ 368) → m q = σ q := fun q x y => (a.1 q x y).trans (hs q x)
  have o : ∀ j, j ≠ 13 → j < 27 → m 362 j = σ 362 j := fun j x y => (a.2.1 j (by omega) (by omega) (by omega)).trans (ho j x (by omega) (by omega) (by omega) (by omega))
  refine ⟨⟨⟨(o 8 (by decide) (by decide)).trans h.forms.1, h.forms.2.1, fun i hi => ⟨?_, (h.forms.2.2 i hi).2⟩⟩, h.lk.congr (o 11 (by decide) (by decide)) (q 371 (by decide) (by decide)) (q 372 (by decide) (by decide)), ⟨(a.2.1 13 (by decide) (by decide) (by decide)).trans h13, Nat.zero_le _, fun i hi => absurd hi (Nat.not_lt_zero i)⟩, h.line.congr (o 15 (by decide) (by decide)) (q 374 (by decide) (by decide)), ⟨h.now.1.congr (q 375 (by decide) (by decide)), h.now.2⟩, h.past.congr (o 18 (by decide) (by decide)) (q 376 (by decide) (by decide)), h.kept.congr (o 25 (by decide) (by decide)) (o 26 (by decide) (by decide)) (fun x y z => q x (by omega) (by omega)), fun i hi => by rw [q 363 (by decide) (by decide)]; exact h.ref i hi⟩, fun k hk => q k (by omega) (by omega)⟩
  have hf := h.forms.2.2 i hi
  have hn := h.forms.2.1
  have hi' : i < A.n := hi
  have hr : RRaw s 0 i (A.F i) := hf.1.raw.congr (fun x y z => hs x (by omega))
  have hr2 : RRaw m 0 i (A.F i) := hr.rows hf.2 hi a
  refine ⟨hr2.pat hf.2 (by omega), hr2.2.1, hr2.2.2.1, ⟨?_, ?_⟩, hr2.2.2.2⟩
  · rw [q 369 (by decide) (by decide)]; exact hf.1.2.2.2.1.1
  · rw [q 370 (by decide) (by decide)]; exact hf.1.2.2.2.1.2
theorem nok256 {f : Fm} (h : Nok f) : ∀ x, x < 3 → fnm f x < 256 := by
  unfold Nok Ltr at h
  intro x hx
  have : x = 0 ∨ x = 1 ∨ x = 2 := by omega
  rcases this with e | e | e <;> subst e <;> omega
theorem text_end {σ : Mem} {A : Ab} (h : RInv σ A) (ha : AOk A) (ht : Tok (A.tc, A.tp)) (s : Mem) (hs : ∀ q, q ≠ 362 → s q = σ q) (ho : ∀ j, j ≠ 13 → j ≠ 27 → j ≠ 28 → j ≠ 29 → j ≠ 30 → s 362 j = σ 362 j) (h13 : s 362 13 = 0) (h28 : s 362 28 = nI A.tc) (k88 : Mem → Option (Int32 × Mem))
    (hk : ∀ m9, k88 m9 = (lt (fun (m10 : Mem) =>
        if (m10 362 30) < (0 : Int32) then
          cl (fX11_newForms m10 (m10 362 29)) <| fun _ m11 =>
          some ((m11 362 8), m11)
        else
          some (((-10 : Int32) - (m10 362 30)), m10)) <| fun j114 =>
      if (m9 362 30) < (0 : Int32) then
        if (m9 362 27) < (m9 362 28) then
          cl (fX11_wrongAt m9 (m9 362 27)) <| fun _ m12 =>
          j114 m12
        else
          j114 m9
      else
        j114 m9)) (m : Mem) (a : FrF A.n s m)
    (hm : (∃ e, e < 1000 ∧ m 362 30 = nI e ∧ txP (A.tc, A.tp) 13 A.n 0 A.F = .inl e) ∨ (∃ c p G, p ≤ A.tc ∧ m 362 27 = nI p ∧ m 362 29 = nI c ∧ m 362 30 = -1 ∧ (∀ i, i < c → RRaw m 0 i (G i)) ∧ txP (A.tc, A.tp) 13 A.n 0 A.F = if p = A.tc then .inr (c, G) else .inl p)) :
    ∃ σ', k88 m = some ((gText A).1, σ') ∧ RInv σ' (gText A).2 ∧ ∀ k, k < 362 → σ' k = σ k := by
  have h200 := ht.1
  rw [hk]
  simp only [lt_e]
  rcases hm with ⟨e, g1, g2, g3⟩ | ⟨c, p, G, g1, g2, g3, g4, g5, g6⟩
  · rw [g2, if_neg (nI_pos (by omega)), if_neg (nI_pos (by omega))]
    unfold gText
    rw [g3]
    exact ⟨m, rfl, rtext_fault h s hs ho h13 a⟩
  · have m28 : m 362 28 = nI A.tc := (a.2.1 28 (by decide) (by decide) (by decide)).trans h28
    have h200' : A.tc ≤ 200 := h200
    rw [g4, if_pos (show (-1 : Int32) < 0 by decide), g2, m28]
    by_cases z : p = A.tc
    · rw [if_pos z] at g6
      have hx := txP_r ht h.forms.2.1 ha (fun i hi => (h.forms.2.2 i hi).2) g6
      rw [if_neg (nI_nlt (by omega) (by omega)), if_pos (show (-1 : Int32) < 0 by decide), g3]
      obtain ⟨w, d1, d2, d3, d4, d5, d6⟩ := newForms_ok (F := G) hx.2.1 hx.2.2.2.1 g5
      rw [d1, cl_s, d2.1]
      unfold gText
      rw [g6]
      have q : ∀ q, q ≠ 362 → ¬ (364 ≤ q ∧ q ≤ 370) → w q = σ q := fun q x y => (d6 q x (by omega) (by omega)).trans ((a.1 q x (by omega)).trans (hs q x))
      have o : ∀ j, j ≠ 8 → j ≠ 11 → j ≠ 18 → j ≠ 13 → j < 27 → w 362 j = σ 362 j := fun j x y z u v => (d5 j x y z).trans ((a.2.1 j (by omega) (by omega) (by omega)).trans (ho j u (by omega) (by omega) (by omega) (by omega)))
      refine ⟨w, rfl, ⟨d2, Or.inl d3, ⟨(d5 13 (by decide) (by decide) (by decide)).trans ((a.2.1 13 (by decide) (by decide) (by decide)).trans h13), Nat.zero_le _, fun i hi => absurd hi (Nat.not_lt_zero i)⟩, h.line.congr (o 15 (by decide) (by decide) (by decide) (by decide) (by decide)) (q 374 (by decide) (by decide)), ⟨h.now.1.congr (q 375 (by decide) (by decide)), h.now.2⟩, ⟨d4, Nat.zero_le _, fun i hi => absurd hi (Nat.not_lt_zero i)⟩, ?_, fun i hi => by rw [q 363 (by decide) (by decide)]; exact h.ref i hi⟩, fun k hk => q k (by omega) (by omega)⟩
      have hkp := h.kept
      revert hkp
      show RKept σ A.n A.F A.kept → RKept w c G A.kept
      cases A.kept with
      | none => intro hkp; exact (o 26 (by decide) (by decide) (by decide) (by decide) (by decide)).trans hkp
      | some y =>
        rintro ⟨k1, k2, k3, k4, k5, k6⟩
        have hcn : A.n ≤ c := hx.1
        refine ⟨(o 26 (by decide) (by decide) (by decide) (by decide) (by decide)).trans k1, (o 25 (by decide) (by decide) (by decide) (by decide) (by decide)).trans k2, by omega, k4.congr (q 377 (by decide) (by decide)), k5, fun i hi => ?_⟩
        have hG : G i = A.F i := hx.2.2.2.2 i (by omega)
        rw [hG]
        exact (k6 i hi).congr (fun x y z => q x (by omega) (by omega))
    · rw [if_neg z] at g6
      rw [if_pos (nI_lt (by omega) (by omega)), wrongAt_ok g4, cl_s, sto_eq, if_neg (nI_pos (by omega))]
      unfold gText
      rw [g6]
      exact ⟨_, rfl, rtext_fault h s hs ho h13 (a.trans (frF_o (Or.inr (Or.inr rfl))))⟩
theorem rs_text : RSa fX11_text gText := by
  intro σ A h ha
  have hn := h.forms.2.1
  have ht : Tok (A.tc, A.tp) := ⟨h.tape.2.1, fun i hi => (h.tape.2.2 i hi).2⟩
  have h200 : A.tc ≤ 200 := ht.1
  unfold fX11_text
  rw [lt_e, lt_e, lt_e, lt_e, lt_e, h.tape.1, show sto (sto (sto (sto σ 362 28 (nI A.tc)) 362 13 0) 362 27 0) 362 30 (-1) 362 8 = nI A.n by rw [sto_nj (by decide), sto_nj (by decide), sto_nj (by decide), sto_nj (by decide)]; exact h.forms.1]
  generalize hm5 : sto (sto (sto (sto (sto σ 362 28 (nI A.tc)) 362 13 0) 362 27 0) 362 30 (-1)) 362 29 (nI A.n) = s
  have hs : ∀ q, q ≠ 362 → s q = σ q := fun q hq => by rw [← hm5, sto_ne hq, sto_ne hq, sto_ne hq, sto_ne hq, sto_ne hq]
  have ho : ∀ j, j ≠ 13 → j ≠ 27 → j ≠ 28 → j ≠ 29 → j ≠ 30 → s 362 j = σ 362 j := fun j a b c d e => by rw [← hm5, sto_nj d, sto_nj e, sto_nj b, sto_nj a, sto_nj c]
  have h13 : s 362 13 = 0 := by rw [← hm5, sto_nj (by decide), sto_nj (by decide), sto_nj (by decide), sto_eq]
  have h27 : s 362 27 = nI 0 := by rw [← hm5, sto_nj (by decide), sto_nj (by decide), sto_eq]; rfl
  have h28 : s 362 28 = nI A.tc := by rw [← hm5, sto_nj (by decide), sto_nj (by decide), sto_nj (by decide), sto_nj (by decide), sto_eq]
  have h29 : s 362 29 = nI A.n := by rw [← hm5, sto_eq]
  have h30 : s 362 30 = -1 := by rw [← hm5, sto_nj (by decide), sto_eq]
  generalize hk88 : (fun (m9 : Mem) => (lt (fun (m10 : Mem) =>
        if (m10 362 30) < (0 : Int32) then
          cl (fX11_newForms m10 (m10 362 29)) <| fun _ m11 =>
          some ((m11 362 8), m11)
        else
          some (((-10 : Int32) - (m10 362 30)), m10)) <| fun j114 =>
      if (m9 362 30) < (0 : Int32) then
        if (m9 362 27) < (m9 362 28) then
          cl (fX11_wrongAt m9 (m9 362 27)) <| fun _ m12 =>
          j114 m12
        else
          j114 m9
      else
        j114 m9)) = k88
  have fin := text_end h ha ht s hs ho h13 h28 k88 (fun m9 => by rw [← hk88])
  refine loop0T (fX11_text_L33 k88) (fX11_text_L33_b k88) (fun _ _ _ => rfl) 14
    (fun k m x => FrF A.n s m ∧ ((x = 1 ∧ ∃ c p G, c = A.n + k ∧ c ≤ 12 ∧ p < 300 ∧ m 362 27 = nI p ∧ m 362 29 = nI c ∧ m 362 30 = -1 ∧ (∀ i, i < c → RRaw m 0 i (G i) ∧ Fok (G i)) ∧ AOkF c G ∧ txP (A.tc, A.tp) 13 A.n 0 A.F = txP (A.tc, A.tp) (13 - k) c p G) ∨ (x = 0 ∧ ((∃ e, e < 1000 ∧ m 362 30 = nI e ∧ txP (A.tc, A.tp) 13 A.n 0 A.F = .inl e) ∨ (∃ c p G, p ≤ A.tc ∧ m 362 27 = nI p ∧ m 362 29 = nI c ∧ m 362 30 = -1 ∧ (∀ i, i < c → RRaw m 0 i (G i)) ∧ txP (A.tc, A.tp) 13 A.n 0 A.F = if p = A.tc then .inr (c, G) else .inl p)))))
    (fun r => ∃ σ', r = some ((gText A).1, σ') ∧ RInv σ' (gText A).2 ∧ ∀ k, k < 362 → σ' k = σ k) ?_ ?_ 5000 0 s 1 (by omega) (by omega) ⟨⟨fun _ _ _ => rfl, fun _ _ _ _ => rfl, fun _ _ => rfl, fun _ _ => rfl, fun _ _ => rfl, fun _ _ => rfl, fun _ _ => rfl⟩, Or.inl ⟨rfl, A.n, 0, A.F, rfl, hn, by omega, h27, h29, h30, fun i hi => ⟨(h.forms.2.2 i hi).1.raw.congr (fun q a b => hs q (by omega)), (h.forms.2.2 i hi).2⟩, ha, rfl⟩⟩
  · rintro m x rec ⟨g1, ⟨_, c, p, G, g2, g3, _⟩ | ⟨rfl, g2⟩⟩
    · omega
    · unfold fX11_text_L33_b
      rw [if_pos rfl]
      exact fin m g1 g2
  · rintro k m x rec hk ⟨g1, ⟨rfl, c, p, G, g2, g3, g4, g5, g6, g7, g8, g9, e⟩ | ⟨rfl, g2⟩⟩
    · right
      unfold fX11_text_L33_b
      rw [if_neg (show ¬ ((1 : Int32) = 0) by decide)]
      have hT : RTp m (A.tc, A.tp) := ⟨(g1.2.1 28 (by decide) (by decide) (by decide)).trans h28, fun i hi => by rw [g1.1 373 (by decide) (by decide), hs 373 (by decide)]; exact (h.tape.2.2 i hi).1⟩
      obtain ⟨u, u1, u2, u3⟩ := readsForm_ok hT ht g3 (G := G) (fun i hi y hy => ⟨(g8 i hi).1.2.2.1 y hy, nok256 (g9 i hi).1 y hy⟩) g4 g5 g6 g7
      have uf : FrF A.n s u := g1.trans (u2.le (by omega))
      rw [u1, cl_s]
      simp only [lt_e]
      rw [txP_s (show k < 13 by omega)] at e
      rcases u3 with ⟨y, v0, v1, v2⟩ | ⟨y, v1, v2, v3, v4, v5⟩
      · rw [v1, if_neg (nI_pos (by omega))]
        simp only [if_true]
        have he : txP (A.tc, A.tp) 13 A.n 0 A.F = .inl y := by
          rcases v2 with v2 | ⟨z, v2, v3, v4⟩
          · rw [e, v2]
          · rw [e, v2]
            have hz := isC_lt v3
            have hz1 : z.1 < A.tc := hz.1
            have hz2 : A.tp z.1 = 44 := hz.2
            have n59 : ¬ isC (A.tc, A.tp) 59 z.1 = true := fun w => by
              have w2 : A.tp z.1 = 59 := (isC_lt w).2
              omega
            show (if z.1 = A.tc then _ else _) = _
            rw [if_neg (by omega), if_neg n59, v4]
        exact ⟨_, _, ⟨uf.trans (frF_o (Or.inl rfl)), Or.inr ⟨rfl, Or.inl ⟨y, v0, by rw [sto_nj (by decide)]; exact v1, he⟩⟩⟩, rfl⟩
      · have hy := stP_r ht v1 g3
        have hy1 : y.1 ≤ A.tc := hy.2.1
        rw [v1] at e
        have hTu : RTp u (A.tc, A.tp) := ⟨(uf.2.1 28 (by decide) (by decide) (by decide)).trans h28, fun i hi => by rw [uf.1 373 (by decide) (by decide), hs 373 (by decide)]; exact (h.tape.2.2 i hi).1⟩
        have e59 := bA_eq ht (c := 59) (by decide) y.1
        rw [show nI 59 = (59 : Int32) from rfl] at e59
        rw [v2, if_pos (show (-1 : Int32) < 0 by decide), v3, rat_ok hTu ht (by omega), cl_s]
        simp only [if_true, if_neg (show ¬ ((1 : Int32) = 0) by decide)]
        have hR : ∀ i, i < c + 1 → RRaw u 0 i (updF G c y.2 i) ∧ Fok (updF G c y.2 i) := fun i hi => by
          by_cases z : i = c
          · subst z
            rw [updF_new]
            exact ⟨v5, hy.2.2.1⟩
          · rw [updF_old (by omega)]
            exact ⟨(g8 i (by omega)).1.rows (g8 i (by omega)).2 (by omega) u2, (g8 i (by omega)).2⟩
        by_cases z : isC (A.tc, A.tp) 59 y.1 = true
        · have hz : y.1 < A.tc := (isC_lt z).1
          simp only at e
          rw [if_neg (show ¬ y.1 = A.tc by omega), if_pos z] at e
          rw [if_pos (e59.mpr z), v3, nI_1]
          refine ⟨_, _, ⟨uf.trans (frF_o (Or.inl rfl)), Or.inl ⟨rfl, c + 1, y.1 + 1, _, by omega, by omega, by omega, sto_eq, by rw [sto_nj (by decide)]; exact v4, by rw [sto_nj (by decide)]; exact v2, fun i hi => ⟨(hR i hi).1.congr (fun q a b => sto_ne (by omega)), (hR i hi).2⟩, AOkF_upd g9 hy.2.2.2.1 hy.2.2.2.2, e⟩⟩, rfl⟩
        · rw [if_neg (fun w => z (e59.mp w)), v3]
          refine ⟨_, _, ⟨uf.trans (frF_o (Or.inl rfl)), Or.inr ⟨rfl, Or.inr ⟨c + 1, y.1, _, hy1, ?_, by rw [sto_nj (by decide)]; exact v4, by rw [sto_nj (by decide)]; exact v2, fun i hi => (hR i hi).1.congr (fun q a b => sto_ne (by omega)), ?_⟩⟩⟩, rfl⟩
          · rw [sto_eq, Int32.add_zero]
          · rw [e]
            show (if y.1 = A.tc then _ else _) = _
            rw [if_neg z]
    · left
      unfold fX11_text_L33_b
      rw [if_pos rfl]
      exact fin m g1 g2
