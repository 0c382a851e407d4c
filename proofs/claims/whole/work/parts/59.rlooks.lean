/-! ===== the reference's table of all words ===== -/
def RTab (σ : Mem) (n : Nat) (F : Nat → Fm) : Prop := ∀ w, w < 4096 → σ 371 w = fitS F n (nI w) ∧ σ 372 w = mnR F n (nI w)
def RLk (σ : Mem) (n : Nat) (F : Nat → Fm) : Prop := σ 362 11 = 0 ∨ (σ 362 11 = 1 ∧ RTab σ n F)
def RSame (σ σ' : Mem) : Prop := (∀ q, q ≠ 362 → q ≠ 371 → q ≠ 372 → q ≠ 385 → σ' q = σ q) ∧ ∀ j, j ≠ 11 → σ' 362 j = σ 362 j
theorem RSame.refl (σ : Mem) : RSame σ σ := ⟨fun _ _ _ _ _ => rfl, fun _ _ => rfl⟩
theorem RSame.trans {a b c : Mem} (h : RSame a b) (g : RSame b c) : RSame a c :=
  ⟨fun q x y z w => (g.1 q x y z w).trans (h.1 q x y z w), fun j hj => (g.2 j hj).trans (h.2 j hj)⟩
theorem RForms.same {σ σ' : Mem} {n : Nat} {F : Nat → Fm} (h : RForms σ n F) (g : RSame σ σ') : RForms σ' n F :=
  h.congr (g.2 8 (by decide)) (fun q a b => g.1 q (by omega) (by omega) (by omega) (by omega))
theorem words_loop {n : Nat} {F : Nat → Fm} (kk : Mem → Option (Unit × Mem)) :
    ∀ (c fuel v : Nat) (m : Mem), v + c = 4096 → c < fuel → RForms m n F → (∀ j, j < n → m 385 j = OV F n j) → (∀ w, w < v → m 371 w = fitS F n (nI w) ∧ m 372 w = mnR F n (nI w)) →
      ∃ m', fX11_looks_L86 kk fuel m (nI v) = kk m' ∧ (∀ q, q ≠ 371 → q ≠ 372 → m' q = m q) ∧ RTab m' n F := by
  intro c
  induction c with
  | zero =>
    intro fuel v m hv hf hR hO hT
    cases fuel with
    | zero => omega
    | succ fuel =>
      show ∃ m', fX11_looks_L86_b kk (fX11_looks_L86 kk fuel) m (nI v) = kk m' ∧ _
      unfold fX11_looks_L86_b
      have e : v = 4096 := by omega
      subst e
      rw [if_neg (by decide)]
      exact ⟨m, rfl, fun _ _ _ => rfl, hT⟩
  | succ c ih =>
    intro fuel v m hv hf hR hO hT
    cases fuel with
    | zero => omega
    | succ fuel =>
      show ∃ m', fX11_looks_L86_b kk (fX11_looks_L86 kk fuel) m (nI v) = kk m' ∧ _
      unfold fX11_looks_L86_b
      have hn := hR.2.1
      have hv4 : v < 4096 := by omega
      have hb := inb_nI hv4 (by decide)
      rw [if_pos (show nI v < 4096 from nI_lt (b := 4096) hv4 (by decide))]
      have hfl := fit_loop hR (nI v) (fun (m15 : Mem) (x16 : Int32) =>
        ck (inb (nI v) 4096) <|
        lt (sto m15 371 (ix (nI v)) x16) <| fun m17 =>
        lt (fun (v18 : Int32) =>
          ck (inb (nI v) 4096) <|
          lt (sto m17 372 (ix (nI v)) v18) <| fun m19 =>
          fX11_looks_L165 
            (fun (m25 : Mem) =>
              fX11_looks_L86 kk fuel m25 (nI v + (1 : Int32)))
            (nI v) x16 5000 m19 (0 : Int32)) <| fun j161 =>
        if x16 = (0 : Int32) then
          j161 (-1 : Int32)
        else
          j161 (-2 : Int32)) 5000 0 (by omega) (by omega)
      have hz : nI 0 = (0 : Int32) := rfl
      rw [hz] at hfl
      rw [show (0 : Int32) = mkS (fun j => fitP (F j) (nI v)) 0 from rfl] at hfl ⊢
      rw [hfl, ck_t hb]
      simp only [lt_e, ck_t hb, ix_nI (show v < 2 ^ 31 by omega), nI_1]
      have h0 : mkS (fun j => fitP (F j) (nI v)) 0 = (0 : Int32) := rfl
      rw [h0]
      have step : ∀ x : Int32, x = (if fitS F n (nI v) = 0 then -1 else -2) → ∃ m', fX11_looks_L165 (fun (m25 : Mem) => fX11_looks_L86 kk fuel m25 (nI (v + 1))) (nI v) (fitS F n (nI v)) 5000 (sto (sto m 371 v (fitS F n (nI v))) 372 v x) 0 = kk m' ∧ (∀ q, q ≠ 371 → q ≠ 372 → m' q = m q) ∧ RTab m' n F := by
        intro x hx
        obtain ⟨m1, a1, a2, a3, a4⟩ := mean_loop hn (nI v) hv4 (fun (m25 : Mem) => fX11_looks_L86 kk fuel m25 (nI (v + 1))) n 5000 0 (sto (sto m 371 v (fitS F n (nI v))) 372 v x) (by omega) (by omega) (by simpa [sto_k] using hR.1) (fun j hj => by simpa [sto_k] using hO j hj)
        rw [hz] at a1
        rw [a1]
        have hsame : ∀ q, q ≠ 371 → q ≠ 372 → m1 q = m q := fun q h1 h2 => by rw [a2 q h2]; funext b; simp [sto_k, h1, h2]
        have hR1 : RForms m1 n F := hR.congr (by rw [hsame 362 (by decide) (by decide)]) (fun q x y => hsame q (by omega) (by omega))
        obtain ⟨m2, b1, b2, b3⟩ := ih fuel (v + 1) m1 (by omega) (by omega) hR1 (fun j hj => by rw [hsame 385 (by decide) (by decide)]; exact hO j hj) (fun w hw => by
          by_cases e : w = v
          · subst e
            refine ⟨by rw [a2 371 (by decide)]; simp [sto_k], ?_⟩
            rw [a4, mnR, mnN]
            by_cases hf0 : fitS F n (nI w) = 0
            · have hno : fndF (bst F n (nI w)) 0 n = none := by
                cases hfn : fndF (bst F n (nI w)) 0 n with
                | none => rfl
                | some j =>
                  have h3 := fndF_lt hfn
                  have h4 := h3.2.2
                  rw [bst, Bool.and_eq_true] at h4
                  have h5 := eq0_bt.mp hf0 j (by omega)
                  rw [fitS_bt hn, h4.1] at h5
                  simp at h5
                  omega
              rw [hno]
              simp [sto_k, hf0, hx]
            · simp only [hf0, if_false]
              cases hfn : fndF (bst F n (nI w)) 0 n with
              | none => simp [sto_k, hf0, hx]
              | some j =>
                have h3 := fndF_lt hfn
                have e1 : ¬ j = 12 := by omega
                have e2 : ¬ j = 13 := by omega
                simp [e1, e2]
          · have h1 := hT w (by omega)
            refine ⟨by rw [a2 371 (by decide)]; simp [sto_k, e, h1.1], ?_⟩
            rw [a3 w e]
            simp [sto_k, e, h1.2])
        exact ⟨m2, b1, fun q h1 h2 => (b2 q h1 h2).trans (hsame q h1 h2), b3⟩
      by_cases hf0 : fitS F n (nI v) = 0
      · rw [if_pos hf0]
        exact step (-1) (by rw [if_pos hf0])
      · rw [if_neg hf0]
        exact step (-2) (by rw [if_neg hf0])
theorem looks_ok {σ : Mem} {n : Nat} {F : Nat → Fm} (hR : RForms σ n F) (hL : RLk σ n F) :
    ∃ σ', fX11_looks σ = some ((), σ') ∧ RSame σ σ' ∧ σ' 362 11 = 1 ∧ RTab σ' n F := by
  have hn := hR.2.1
  unfold fX11_looks
  rcases hL with h | ⟨h, hT⟩
  · rw [if_pos h, lt_e, lt_e]
    unfold fX11_looks_t
    have hs : ∀ q, q ≠ 385 → q ≠ 362 → (zer (sto σ 362 11 1)) q = σ q := fun q h1 h2 => by funext b; simp [zer, sto_k, h1, h2]
    have hR1 : RForms (zer (sto σ 362 11 1)) n F := hR.congr (by simp [zer, sto_k]) (fun q a b => hs q (by omega) (by omega))
    obtain ⟨m1, a1, a2, a3⟩ := overs_loop hR1 (fun (m4 : Mem) => fX11_looks_L86 (fun (m8 : Mem) => some ((), m8)) 5000 m4 (0 : Int32)) n 5000 0 _ (by omega) (by omega) (fun _ _ => rfl) (fun j hj => by omega) (fun j _ => by simp [zer])
    have hz : nI 0 = (0 : Int32) := rfl
    rw [hz] at a1
    rw [a1]
    have hR2 : RForms m1 n F := hR1.congr (by rw [a2 362 (by decide)]) (fun q a b => a2 q (by omega))
    obtain ⟨m2, b1, b2, b3⟩ := words_loop (fun (m8 : Mem) => some ((), m8)) 4096 5000 0 m1 (by omega) (by omega) hR2 a3 (fun w hw => by omega)
    rw [hz] at b1
    rw [b1]
    refine ⟨m2, rfl, ⟨fun q h1 h2 h3 h4 => by rw [b2 q h2 h3, a2 q h4, hs q h4 h1], fun j hj => ?_⟩, ?_, b3⟩
    · rw [b2 362 (by decide) (by decide), a2 362 (by decide)]; simp [zer, sto_k, hj]
    · rw [b2 362 (by decide) (by decide), a2 362 (by decide)]; simp [zer, sto_k]
  · rw [if_neg (by rw [h]; decide)]
    exact ⟨σ, rfl, RSame.refl σ, h, hT⟩
theorem meant_ok {σ : Mem} {n : Nat} {F : Nat → Fm} (hR : RForms σ n F) (hL : RLk σ n F) {w : Nat} (hw : w < 4096) :
    ∃ σ', fX11_meant σ (nI w) = some (mnR F n (nI w), σ') ∧ RSame σ σ' ∧ σ' 362 11 = 1 ∧ RTab σ' n F := by
  obtain ⟨σ', a1, a2, a3, a4⟩ := looks_ok hR hL
  refine ⟨σ', ?_, a2, a3, a4⟩
  unfold fX11_meant
  rw [a1, cl_s, ck_t (inb_nI hw (by decide)), ix_nI (by omega), (a4 w hw).2]
