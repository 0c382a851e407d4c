/-! ===== texts: what is read keeps the rules of forms ===== -/
theorem sgOk_lt {t : Tp} {p k : Nat} (h : sgOk t p k = true) : p + k < t.1 := by
  unfold sgOk at h
  simp only [Bool.and_eq_true, decide_eq_true_eq] at h
  exact h.1
theorem sgOk_cnt {t : Tp} {p l : Nat} (hl : l < 8) : ∀ k, k ≤ 12 → (∀ j, j < k → sgOk t p j = true) → cnt (fpk (pP t p) k l) 12 ≤ 8
  | 0, _, _ => by
    have : ¬ 0 < cnt (fpk (pP t p) 0 l) 12 := fun z => by
      obtain ⟨b, hb, hf⟩ := cnt_pos.mp z
      unfold fpk at hf
      simp only [Bool.and_eq_true, decide_eq_true_eq] at hf
      omega
    omega
  | k + 1, hk, h => by
    have ih := sgOk_cnt (t := t) (p := p) hl k (by omega) (fun j hj => h j (by omega))
    cases hf : fp (pP t p) l (11 - k) with
    | false => rw [fpk_same (by omega) hf]; exact ih
    | true =>
      rw [fpk_new (by omega) hf]
      have hlo := (fp_lof hl).mp hf
      rw [pP_k (by omega)] at hlo
      have := h k (by omega)
      unfold sgOk at this
      rw [hlo] at this
      simp only [sgM, Bool.and_eq_true, decide_eq_true_eq] at this
      have hno : fpk (pP t p) k l (11 - k) = false := by
        cases hx : fpk (pP t p) k l (11 - k) with
        | false => rfl
        | true => have := fpk_gt (show k < 12 by omega) hx; omega
      rw [cnt_ins (p := fpk (pP t p) k l) (l := 11 - k) hno (fun _ => rfl), if_pos (by omega)]
      omega
def Rok (P : Nat → Nat) (r : Nat) (rl : Rl) : Prop := ∀ i, i < r → ((rl i).2.1 < 8 ∧ 0 < cnt (fp P (rl i).2.1) 12) ∧ ((rl i).1 = 35 ∧ (rl i).2.2 ≤ 255 ∨ (rl i).1 = 47 ∧ 2 ≤ (rl i).2.2 ∧ (rl i).2.2 ≤ 9 ∨ (rl i).1 = 60 ∧ (rl i).2.2 < 8 ∧ 0 < cnt (fp P (rl i).2.2) 12)
theorem rusP_r {P : Nat → Nat} {t : Tp} : ∀ {c r p : Nat} {rl : Rl} {x : Nat × Nat × Rl}, p ≤ t.1 → Rok P r rl → rusP P t c r p rl = .inr x → x.1 ≤ t.1 ∧ x.2.1 ≤ r + c ∧ Rok P x.2.1 x.2.2
  | 0, r, p, rl, x, hp, hr, h => by
    rw [rusP] at h
    cases h
    exact ⟨hp, Nat.le_refl _, hr⟩
  | c + 1, r, p, rl, x, hp, hr, h => by
    rw [rusP] at h
    by_cases z : isC t 44 p = true
    · rw [if_pos z] at h
      cases hru : ruP P t (p + 1) with
      | inl e => rw [hru] at h; cases h
      | inr y =>
        rw [hru] at h
        have := ruP_r hru
        have ih := rusP_r (c := c) (r := r + 1) (p := y.1) (x := x) this.1 (fun i hi => by
          by_cases e : i = r
          · simp only [e, if_true]; exact this.2.2
          · simp only [e, if_false]; exact hr i (by omega)) h
        exact ⟨ih.1, by omega, ih.2.2⟩
    · rw [if_neg z] at h
      cases h
      exact ⟨hp, by show r ≤ r + (c + 1); omega, hr⟩
theorem rusP_l {P : Nat → Nat} {t : Tp} (ht : t.1 ≤ 200) : ∀ {c r p : Nat} {rl : Rl} {e : Nat}, p ≤ 200 → rusP P t c r p rl = .inl e → e < 1000
  | 0, r, p, rl, x, hp, h => by rw [rusP] at h; cases h
  | c + 1, r, p, rl, x, hp, h => by
    rw [rusP] at h
    by_cases z : isC t 44 p = true
    · rw [if_pos z] at h
      cases hru : ruP P t (p + 1) with
      | inl e => rw [hru] at h; cases h; have := ruP_l hru; omega
      | inr y =>
        rw [hru] at h
        exact rusP_l ht (c := c) (by have := (ruP_r hru).1; omega) h
    · rw [if_neg z] at h; cases h
theorem patK_all {t : Tp} {p : Nat} (h : ¬ patK t p < 12) : ∀ k, k < 12 → sgOk t (pat0 t p) k = true := fun k hk => by
  have h12 := spn_le (sgOk t (pat0 t p)) 12 0
  unfold patK at h
  exact spn_all (q := sgOk t (pat0 t p)) (i := 0) (c := 12) (Nat.zero_le _) (by omega)
theorem stP_r {F : Nat → Fm} {c : Nat} {t : Tp} (ht : Tok t) {p : Nat} {x : Nat × Fm} (h : stP F c t p = .inr x) (hc : c ≤ 12) :
    c < 12 ∧ x.1 ≤ t.1 ∧ Fok x.2 ∧ Nok x.2 ∧ ∀ j, j < c → nmIs (F j) (fnm x.2 0) (fnm x.2 1) (fnm x.2 2) = false := by
  unfold stP at h
  by_cases c12 : c = 12
  · rw [if_pos c12] at h; cases h
  rw [if_neg c12] at h
  cases hk : kdA t p with
  | none => rw [hk] at h; cases h
  | some kd =>
    rw [hk] at h
    simp only at h
    by_cases z : nmK t p = 0 ∨ tkn F c t p ≠ none ∨ ¬ isC t 58 (p + 1 + nmK t p) = true
    · rw [if_pos z] at h; cases h
    rw [if_neg z] at h
    by_cases w : patK t p < 12
    · rw [if_pos w] at h; cases h
    rw [if_neg w] at h
    have hall := patK_all w
    have h11 := sgOk_lt (hall 11 (by decide))
    have h7 : kd < 7 := by
      unfold kdA at hk
      split at hk
      · exact (kdO_iff.mp hk).1
      · cases hk
    cases hr : rusP (pP t (pat0 t p)) t 3 0 (pat0 t p + 12) (fun _ => (0, 0, 0)) with
    | inl e => rw [hr] at h; cases h
    | inr y =>
      rw [hr] at h
      cases h
      have hR := rusP_r (by omega) (fun i hi => by omega) hr
      refine ⟨by omega, hR.1, ⟨h7, fun b hb => ?_, fun l hl => ?_, by show y.2.1 ≤ 3; omega, hR.2.2⟩, nmF_nm (by omega), fun j hj => ?_⟩
      · exact ht.2 _ (by omega)
      · have := sgOk_cnt (t := t) (p := pat0 t p) hl 12 (by omega) hall
        rw [fpk_12] at this
        exact this
      · have hn : tkn F c t p = none := by
          cases hn : tkn F c t p with
          | none => rfl
          | some i => exact absurd (Or.inr (Or.inl (by rw [hn]; simp))) z
        exact fndF_none hn j (by omega) (by omega)
theorem stP_l {F : Nat → Fm} {c : Nat} {t : Tp} (ht : Tok t) {p e : Nat} (hp : p < 300) (h : stP F c t p = .inl e) : e < 1000 := by
  have hle := nmK_le t p
  have h200 := ht.1
  unfold stP at h
  by_cases c12 : c = 12
  · rw [if_pos c12] at h; cases h; omega
  rw [if_neg c12] at h
  cases hk : kdA t p with
  | none => rw [hk] at h; cases h; omega
  | some kd =>
    rw [hk] at h
    simp only at h
    by_cases z : nmK t p = 0 ∨ tkn F c t p ≠ none ∨ ¬ isC t 58 (p + 1 + nmK t p) = true
    · rw [if_pos z] at h; cases h; omega
    rw [if_neg z] at h
    by_cases w : patK t p < 12
    · rw [if_pos w] at h; cases h; unfold pat0; omega
    rw [if_neg w] at h
    have h11 := sgOk_lt (patK_all w 11 (by decide))
    cases hr : rusP (pP t (pat0 t p)) t 3 0 (pat0 t p + 12) (fun _ => (0, 0, 0)) with
    | inl y => rw [hr] at h; cases h; exact rusP_l h200 (by omega) hr
    | inr y => rw [hr] at h; cases h
theorem updF_old {F : Nat → Fm} {c i : Nat} {f : Fm} (h : i < c) : updF F c f i = F i := if_neg (by omega)
theorem updF_new {F : Nat → Fm} {c : Nat} {f : Fm} : updF F c f c = f := if_pos rfl
theorem AOkF_upd {F : Nat → Fm} {c : Nat} {f : Fm} (h : AOkF c F) (hf : Nok f) (hn : ∀ j, j < c → nmIs (F j) (fnm f 0) (fnm f 1) (fnm f 2) = false) : AOkF (c + 1) (updF F c f) := by
  intro i hi
  by_cases e : i = c
  · subst e
    rw [updF_new]
    exact ⟨hf, fun j hj => by rw [updF_old hj]; exact hn j hj⟩
  · rw [updF_old (by omega)]
    exact ⟨(h i (by omega)).1, fun j hj => by rw [updF_old (by omega)]; exact (h i (by omega)).2 j hj⟩
theorem txP_s {t : Tp} {k c p : Nat} {F : Nat → Fm} (hk : k < 13) : txP t (13 - k) c p F = match stP F c t p with
    | .inl e => .inl e
    | .inr x => if x.1 = t.1 then .inr (c + 1, updF F c x.2) else if isC t 59 x.1 = true then txP t (13 - (k + 1)) (c + 1) (x.1 + 1) (updF F c x.2) else .inl x.1 := by
  obtain ⟨j, h1, h2⟩ : ∃ j, 13 - k = j + 1 ∧ 13 - (k + 1) = j := ⟨13 - k - 1, by omega, by omega⟩
  rw [h1, h2, txP]
  rfl
theorem txP_r {t : Tp} (ht : Tok t) : ∀ {k c p : Nat} {F : Nat → Fm} {x : Nat × (Nat → Fm)}, c ≤ 12 → AOkF c F → (∀ i, i < c → Fok (F i)) → txP t k c p F = .inr x → c ≤ x.1 ∧ x.1 ≤ 12 ∧ AOkF x.1 x.2 ∧ (∀ i, i < x.1 → Fok (x.2 i)) ∧ ∀ i, i < c → x.2 i = F i
  | 0, c, p, F, x, _, _, _, h => by rw [txP] at h; cases h
  | k + 1, c, p, F, x, hc, ha, hf, h => by
    rw [txP] at h
    cases hs : stP F c t p with
    | inl e => rw [hs] at h; cases h
    | inr y =>
      rw [hs] at h
      simp only at h
      have hy := stP_r ht hs hc
      have a1 := AOkF_upd ha hy.2.2.2.1 hy.2.2.2.2
      have f1 : ∀ i, i < c + 1 → Fok (updF F c y.2 i) := fun i hi => by
        by_cases e : i = c
        · subst e; rw [updF_new]; exact hy.2.2.1
        · rw [updF_old (by omega)]; exact hf i (by omega)
      by_cases z : y.1 = t.1
      · rw [if_pos z] at h
        cases h
        exact ⟨by show c ≤ c + 1; omega, by show c + 1 ≤ 12; omega, a1, f1, fun i hi => updF_old hi⟩
      · rw [if_neg z] at h
        by_cases w : isC t 59 y.1 = true
        · rw [if_pos w] at h
          have ih := txP_r ht (k := k) (by omega) a1 f1 h
          exact ⟨by omega, ih.2.1, ih.2.2.1, ih.2.2.2.1, fun i hi => by rw [ih.2.2.2.2 i (by omega), updF_old hi]⟩
        · rw [if_neg w] at h; cases h
theorem txP_l {t : Tp} (ht : Tok t) : ∀ {k c p e : Nat} {F : Nat → Fm}, c ≤ 12 → p < 300 → txP t k c p F = .inl e → e < 1000
  | 0, c, p, e, F, _, hp, h => by rw [txP] at h; cases h; omega
  | k + 1, c, p, e, F, hc, hp, h => by
    rw [txP] at h
    have h200 := ht.1
    cases hs : stP F c t p with
    | inl e => rw [hs] at h; cases h; exact stP_l ht hp hs
    | inr y =>
      rw [hs] at h
      simp only at h
      have hy := stP_r ht hs hc
      by_cases z : y.1 = t.1
      · rw [if_pos z] at h; cases h
      · rw [if_neg z] at h
        by_cases w : isC t 59 y.1 = true
        · rw [if_pos w] at h
          exact txP_l ht (k := k) (by omega) (by omega) h
        · rw [if_neg w] at h; cases h; omega
/-- text -/
def gText (A : Ab) : Int32 × Ab := match txP (A.tc, A.tp) 13 A.n 0 A.F with
  | .inl e => (-10 - nI e, setT A 0 A.tp)
  | .inr x => (nI x.1, (x.1, x.2, 0, A.tp, A.lc, A.ln, A.d, 0, A.past, A.kept, A.rf))
