/-! ===== deeds: become, remember, notes ===== -/
theorem become_ok {σ : Mem} {k a : Nat} {d : Dd} (h : CDeeds σ a d) (hd : Dok d) (hk : k + 4 ≤ a ∨ a + 4 ≤ k) :
    ∃ σ', fX1_become k σ a = some ((), σ') ∧ CDeeds σ' k d ∧ ∀ q, q < k ∨ k + 4 ≤ q → σ' q = σ q := by
  have hm := hd.2.1
  unfold fX1_become
  rw [ck_t (by decide), lt_e, ck_t (by decide), lt_e, ck_t (by decide), lt_e, lt_e, show ix (0 : Int32) = 0 from rfl, show ix (32 : Int32) = 32 from rfl, show ix (8 : Int32) = 8 from rfl]
  refine ⟨_, rfl, ⟨fun i hi => ?_, fun i hi => ?_, ?_, fun i hi => ?_⟩, fun q hq => ?_⟩
  · have e1 : k + 1 ≠ k := by omega
    have e2 : k + 1 ≠ k + 3 := by omega
    have e3 : k + 1 ≠ k + 2 := by omega
    rw [sto_ne e1, cpy, if_neg e2, cpy, if_neg e3, cpy, if_pos rfl, pk_cpy_in (Nat.zero_le _) (by show i < 0 + 32; omega)]
    rw [Nat.sub_zero, Nat.zero_add]; exact h.1 i hi
  · have e1 : k + 2 ≠ k := by omega
    have e2 : k + 2 ≠ k + 3 := by omega
    have e3 : a + 2 ≠ k + 1 := by omega
    rw [sto_ne e1, cpy, if_neg e2, cpy, if_pos rfl, pk_cpy_in (Nat.zero_le _) (by show i < 0 + 8; omega), cpy, if_neg e3]
    rw [Nat.sub_zero, Nat.zero_add]; exact h.2.1 i hi
  · have e1 : a ≠ k + 1 := by omega
    have e2 : a ≠ k + 2 := by omega
    have e3 : a ≠ k + 3 := by omega
    rw [sto_eq, cpy, if_neg e3, cpy, if_neg e2, cpy, if_neg e1, h.2.2.1]
  · have e1 : k + 3 ≠ k := by omega
    have e3 : a + 3 ≠ k + 1 := by omega
    have e4 : a + 3 ≠ k + 2 := by omega
    rw [sto_ne e1, cpy, if_pos rfl, pk_cpy_in (Nat.zero_le _) (by show i < 0 + 32; omega), cpy, if_neg e4, cpy, if_neg e3]
    rw [Nat.sub_zero, Nat.zero_add]; exact h.2.2.2 i hi
  · have e0 : q ≠ k := by omega
    have e1 : q ≠ k + 1 := by omega
    have e2 : q ≠ k + 2 := by omega
    have e3 : q ≠ k + 3 := by omega
    rw [sto_ne e0, cpy, if_neg e3, cpy, if_neg e2, cpy, if_neg e1]
def psh (c : Nat) (ps : Nat → Dd) (d : Dd) : Nat → Dd := fun t => if c = 16 then (if t = 15 then d else ps (t + 1)) else if t = c then d else ps t
def remA (A : Ab) : Ab := (A.n, A.F, A.tc, A.tp, A.lc, A.ln, A.d, if A.pc = 16 then 16 else A.pc + 1, psh A.pc A.past A.d, A.kept, A.rf)
theorem CInv.pastB {σ σ' : Mem} {A : Ab} (h : CInv σ A) (c : Nat) (ps : Nat → Dd) (hp : CPast σ' c ps) (h0 : σ' 0 10 = σ 0 10) (hq : ∀ q, 0 < q → q < 298 → σ' q = σ q) : CInv σ' (A.n, A.F, A.tc, A.tp, A.lc, A.ln, A.d, c, ps, A.kept, A.rf) :=
  ⟨h.mean.congr (fun q a b => hq q (by omega) (by omega)), h.sg.congr (fun q a b => hq q (by omega) (by omega)), h.thr.congr (fun q a b _ _ => hq q (by omega) (by omega)), h.tape.congr (hq _ (by decide) (by decide)) (hq _ (by decide) (by decide)), h.line.congr (hq _ (by decide) (by decide)) (hq _ (by decide) (by decide)), ⟨h.now.1.congr (fun q a b => hq q (by omega) (by omega)), h.now.2⟩, hp, h.kept.congr h0 (fun q a b => hq q (by omega) (by omega)), fun i hi => by rw [hq 8 (by decide) (by decide)]; exact h.ref i hi⟩
theorem mod16 {x : Nat} (h : x < 2 ^ 20) : (nI x) % (16 : Int32) = nI (x % 16) := by
  have := pk_rem (a := x) (d := 16) (by omega) (by decide) (by decide)
  rw [show nI 16 = (16 : Int32) from rfl] at this
  rw [← this]
  apply Int32.toInt_inj.mp
  have hd := pk_div (a := x) (d := 16) (by omega) (by decide) (by decide)
  rw [show nI 16 = (16 : Int32) from rfl] at hd
  rw [hd, show (16 : Int32) = nI 16 from rfl, pk_mul, pk_sub (by omega), nI_toInt (by omega), Int32.toInt_mod, nI_toInt (by omega), nI_toInt (by decide), Int.tmod_eq_emod_of_nonneg (by omega)]
  omega
theorem remember_ok {σ : Mem} {A : Ab} (h : CInv σ A) : ∃ σ', fX10_remember σ = some ((), σ') ∧ CInv σ' (remA A) ∧ Hi σ σ' := by
  obtain ⟨hc, hc16, p0, hp, h12, hps⟩ := h.past
  unfold fX10_remember
  rw [lt_e]
  have core : ∀ (m1 : Mem) (q0 c : Nat) (ps : Nat → Dd), q0 < 16 → c < 16 → m1 0 12 = nI q0 → m1 0 13 = nI c → m1 0 10 = σ 0 10 → (∀ q, q ≠ 0 → m1 q = σ q) → (∀ t, t < c → CDeeds σ (298 + 4 * ((q0 + t) % 16)) (ps t) ∧ Dok (ps t)) →
      ∃ σ', (ck (inb (((m1 0 12) + (m1 0 13)) % (16 : Int32)) 16) <|
    cl (fX1_become (298 + 4 * ix (((m1 0 12) + (m1 0 13)) % (16 : Int32))) m1 283) <| fun _ m3 =>
    lt (sto m3 0 13 ((m3 0 13) + (1 : Int32))) <| fun m4 =>
    some ((), m4)) = some ((), σ') ∧ CInv σ' (A.n, A.F, A.tc, A.tp, A.lc, A.ln, A.d, c + 1, (fun t => if t = c then A.d else ps t), A.kept, A.rf) ∧ Hi σ σ' := by
    intro m1 q0 c ps hq0 hc2 e12 e13 e10 hs hp2
    rw [e12, e13, nI_add, mod16 (by omega), ck_t (inb_nI (show (q0 + c) % 16 < 16 by omega) (by decide)), ix_nI (by omega)]
    have hnow : CDeeds m1 283 A.d := h.now.1.congr (fun q a b => hs q (by omega))
    obtain ⟨s, b1, b2, b3⟩ := become_ok (k := 298 + 4 * ((q0 + c) % 16)) hnow h.now.2 (Or.inr (by omega))
    rw [b1, cl_s, lt_e]
    have hs0 : s 0 = m1 0 := b3 0 (Or.inl (by omega))
    refine ⟨_, rfl, h.pastB _ _ ⟨?_, by omega, q0, hq0, ?_, fun t ht => ?_⟩ ?_ (fun q a b => ?_), fun k hk => ?_⟩
    · rw [sto_eq, hs0, e13, nI_1]
    · rw [sto_nj (by decide), hs0, e12]
    · have hsto : ∀ q, q ≠ 0 → sto s 0 13 (s 0 13 + 1) q = s q := fun q hq => sto_ne hq
      show CDeeds _ _ (if t = c then A.d else ps t) ∧ Dok (if t = c then A.d else ps t)
      by_cases e : t = c
      · subst e
        rw [if_pos rfl]
        exact ⟨b2.congr (fun q a b => hsto q (by omega)), h.now.2⟩
      · rw [if_neg e]
        have ht2 : t < c := by omega
        refine ⟨((hp2 t ht2).1.congr (fun q a b => ?_)), (hp2 t ht2).2⟩
        have hne : (q0 + t) % 16 ≠ (q0 + c) % 16 := by omega
        rw [hsto q (by omega), b3 q (by omega), hs q (by omega)]
    · rw [sto_nj (by decide), hs0, e10]
    · rw [sto_ne (by omega), b3 q (Or.inl (by omega)), hs q (by omega)]
    · rw [sto_ne (by omega), b3 k (Or.inr (by omega)), hs k (by omega)]
  rw [hc]
  by_cases e : A.pc = 16
  · rw [if_pos (by rw [e]; rfl), h12, nI_1, mod16 (by omega), lt_e, lt_e]
    obtain ⟨s, b1, b2, b3⟩ := core (sto (sto σ 0 12 (nI ((p0 + 1) % 16))) 0 13 (sto σ 0 12 (nI ((p0 + 1) % 16)) 0 13 - 1)) ((p0 + 1) % 16) 15 (fun t => A.past (t + 1)) (by omega) (by omega) (by rw [sto_nj (by decide), sto_eq]) (by rw [sto_eq, sto_nj (by decide), hc, e]; rfl) (by rw [sto_nj (by decide), sto_nj (by decide)]) (fun q hq => by rw [sto_ne hq, sto_ne hq]) (fun t ht => by
      have := hps (t + 1) (by omega)
      have e2 : ((p0 + 1) % 16 + t) % 16 = (p0 + (t + 1)) % 16 := by omega
      rw [e2]; exact this)
    refine ⟨s, b1, ?_, b3⟩
    have : remA A = (A.n, A.F, A.tc, A.tp, A.lc, A.ln, A.d, 15 + 1, (fun t => if t = 15 then A.d else A.past (t + 1)), A.kept, A.rf) := by
      unfold remA psh
      simp only [e, if_true]
    rw [this]; exact b2
  · rw [if_neg (show ¬ nI A.pc = 16 from fun z => e ((nI_eq (b := 16) (by omega) (by decide)).mp z))]
    obtain ⟨s, b1, b2, b3⟩ := core σ p0 A.pc A.past hp (by omega) h12 hc rfl (fun _ _ => rfl) hps
    refine ⟨s, b1, ?_, b3⟩
    have : remA A = (A.n, A.F, A.tc, A.tp, A.lc, A.ln, A.d, A.pc + 1, (fun t => if t = A.pc then A.d else A.past t), A.kept, A.rf) := by
      unfold remA psh
      simp only [e, if_false]
    rw [this]; exact b2
theorem RInv.pastB {σ σ' : Mem} {A : Ab} (h : RInv σ A) (c : Nat) (ps : Nat → Dd) (hp : RPast σ' c ps) (ho : ∀ j, j ≠ 18 → σ' 362 j = σ 362 j) (hq : ∀ q, 363 ≤ q → q ≠ 376 → σ' q = σ q) : RInv σ' (A.n, A.F, A.tc, A.tp, A.lc, A.ln, A.d, c, ps, A.kept, A.rf) :=
  ⟨h.forms.congr (ho _ (by decide)) (fun q a b => hq q (by omega) (by omega)), h.lk.congr (ho _ (by decide)) (hq _ (by decide) (by decide)) (hq _ (by decide) (by decide)), h.tape.congr (ho _ (by decide)) (hq _ (by decide) (by decide)), h.line.congr (ho _ (by decide)) (hq _ (by decide) (by decide)), ⟨h.now.1.congr (hq _ (by decide) (by decide)), h.now.2⟩, hp, h.kept.congr (ho _ (by decide)) (ho _ (by decide)) (fun q a b => hq q (by omega) (by omega)), fun i hi => by rw [hq 363 (by decide) (by decide)]; exact h.ref i hi⟩
theorem e73 (c i : Nat) : (73 : Int32) * nI c + nI i = nI (73 * c + i) := by
  rw [show (73 : Int32) = nI 73 from rfl, pk_mul, nI_add]
theorem note_loop {c : Nat} (hc : c < 16) (kk : Mem → Option (Unit × Mem)) :
    ∀ (r fuel i : Nat) (m : Mem), i + r = 73 → r < fuel → m 362 18 = nI c →
      ∃ m', fX11_notes_L51 kk fuel m (nI i) = kk m' ∧ (∀ q, q ≠ 376 → m' q = m q) ∧ (∀ j, i ≤ j → j < 73 → m' 376 (73 * c + j) = m 375 j) ∧ ∀ j, j < 73 * c + i → m' 376 j = m 376 j := by
  intro r
  induction r with
  | zero =>
    intro fuel i m hi hf h18
    cases fuel with
    | zero => omega
    | succ fuel =>
      show ∃ m', fX11_notes_L51_b kk (fX11_notes_L51 kk fuel) m (nI i) = kk m' ∧ _
      unfold fX11_notes_L51_b
      have : i = 73 := by omega
      subst this
      rw [if_neg (by decide)]
      exact ⟨m, rfl, fun _ _ => rfl, fun j a b => by omega, fun _ _ => rfl⟩
  | succ r ih =>
    intro fuel i m hi hf h18
    cases fuel with
    | zero => omega
    | succ fuel =>
      show ∃ m', fX11_notes_L51_b kk (fX11_notes_L51 kk fuel) m (nI i) = kk m' ∧ _
      unfold fX11_notes_L51_b
      rw [if_pos (show nI i < 73 from nI_lt (b := 73) (by omega) (by decide)), h18, e73, ck_t (inb_nI (show i < 73 by omega) (by decide)), ck_t (inb_nI (show 73 * c + i < 1168 by omega) (by decide)), lt_e, ix_nI (by omega), ix_nI (by omega), nI_1]
      obtain ⟨m', a1, a2, a3, a4⟩ := ih fuel (i + 1) (sto m 376 (73 * c + i) (m 375 i)) (by omega) (by omega) (by rw [sto_ne (by decide)]; exact h18)
      refine ⟨m', a1, fun q hq => by rw [a2 q hq, sto_ne hq], fun j h1 h2 => ?_, fun j hj => ?_⟩
      · by_cases e : j = i
        · subst e
          rw [a4 _ (by omega), sto_eq]
        · rw [a3 j (by omega) h2, sto_ne (by decide)]
      · rw [a4 j (by omega), sto_nj (by omega)]
theorem shift_loop (kk : Mem → Option (Unit × Mem)) :
    ∀ (r fuel i : Nat) (m : Mem), i + r = 1095 → r < fuel →
      ∃ m', fX11_notes_L11 kk fuel m (nI i) = kk m' ∧ (∀ q, q ≠ 376 → m' q = m q) ∧ (∀ j, i ≤ j → j < 1095 → m' 376 j = m 376 (j + 73)) ∧ ∀ j, j < i → m' 376 j = m 376 j := by
  intro r
  induction r with
  | zero =>
    intro fuel i m hi hf
    cases fuel with
    | zero => omega
    | succ fuel =>
      show ∃ m', fX11_notes_L11_b kk (fX11_notes_L11 kk fuel) m (nI i) = kk m' ∧ _
      unfold fX11_notes_L11_b
      have : i = 1095 := by omega
      subst this
      rw [if_neg (by decide)]
      exact ⟨m, rfl, fun _ _ => rfl, fun j a b => by omega, fun _ _ => rfl⟩
  | succ r ih =>
    intro fuel i m hi hf
    cases fuel with
    | zero => omega
    | succ fuel =>
      show ∃ m', fX11_notes_L11_b kk (fX11_notes_L11 kk fuel) m (nI i) = kk m' ∧ _
      unfold fX11_notes_L11_b
      rw [if_pos (show nI i < 1095 from nI_lt (b := 1095) (by omega) (by decide)), show nI i + 73 = nI (i + 73) from nI_add i 73, ck_t (inb_nI (show i + 73 < 1168 by omega) (by decide)), ck_t (inb_nI (show i < 1168 by omega) (by decide)), lt_e, ix_nI (by omega), ix_nI (by omega), nI_1]
      obtain ⟨m', a1, a2, a3, a4⟩ := ih fuel (i + 1) (sto m 376 i (m 376 (i + 73))) (by omega) (by omega)
      refine ⟨m', a1, fun q hq => by rw [a2 q hq, sto_ne hq], fun j h1 h2 => ?_, fun j hj => ?_⟩
      · by_cases e : j = i
        · subst e
          rw [a4 _ (by omega), sto_eq]
        · rw [a3 j (by omega) h2, sto_nj (by omega)]
      · rw [a4 j (by omega), sto_nj (by omega)]
theorem RDeeds.mv {σ σ' : Mem} {r o r' o' : Nat} {d : Dd} (h : RDeeds σ r o d) (hd : Dok d) (e : ∀ j, j < 73 → σ' r' (o' + j) = σ r (o + j)) : RDeeds σ' r' o' d := by
  have hm := hd.2.1
  refine ⟨fun i hi => by rw [e i (by omega)]; exact h.1 i hi, fun i hi => ?_, by rw [e 72 (by omega)]; exact h.2.2.1, fun i hi => ?_⟩
  · have := e (8 + i) (by omega)
    rw [Nat.add_assoc, this, ← Nat.add_assoc]; exact h.2.1 i hi
  · have := e (40 + i) (by omega)
    rw [Nat.add_assoc, this, ← Nat.add_assoc]; exact h.2.2.2 i hi
theorem notes_ok {σ : Mem} {A : Ab} (h : RInv σ A) : ∃ σ', fX11_notes σ = some ((), σ') ∧ RInv σ' (remA A) ∧ Lo σ σ' := by
  obtain ⟨hc, hc16, hps⟩ := h.past
  unfold fX11_notes
  rw [lt_e]
  have hz : nI 0 = (0 : Int32) := rfl
  have core : ∀ (m1 : Mem) (c : Nat) (ps : Nat → Dd), c < 16 → m1 362 18 = nI c → (∀ j, j ≠ 18 → m1 362 j = σ 362 j) → (∀ q, q ≠ 362 → q ≠ 376 → m1 q = σ q) → (∀ t, t < c → RDeeds m1 376 (73 * t) (ps t) ∧ Dok (ps t)) →
      ∃ σ', fX11_notes_L51
      (fun (m5 : Mem) =>
        lt (sto m5 362 18 ((m5 362 18) + (1 : Int32))) <| fun m6 =>
        some ((), m6))
      5000 m1 (0 : Int32) = some ((), σ') ∧ RInv σ' (A.n, A.F, A.tc, A.tp, A.lc, A.ln, A.d, c + 1, (fun t => if t = c then A.d else ps t), A.kept, A.rf) ∧ Lo σ σ' := by
    intro m1 c ps hc2 e18 ho hs hp2
    obtain ⟨m2, a1, a2, a3, a4⟩ := note_loop hc2 (fun (m5 : Mem) =>
        lt (sto m5 362 18 ((m5 362 18) + (1 : Int32))) <| fun m6 =>
        some ((), m6)) 73 5000 0 m1 (by omega) (by omega) e18
    rw [hz] at a1
    rw [a1, lt_e]
    have h362 : m2 362 = m1 362 := a2 362 (by decide)
    refine ⟨_, rfl, h.pastB _ _ ⟨?_, by omega, fun t ht => ?_⟩ (fun j hj => ?_) (fun q a b => ?_), fun k hk => ?_⟩
    · rw [sto_eq, h362, e18, nI_1]
    · have hsto : ∀ q, q ≠ 362 → sto m2 362 18 (m2 362 18 + 1) q = m2 q := fun q hq => sto_ne hq
      show RDeeds _ _ _ (if t = c then A.d else ps t) ∧ Dok (if t = c then A.d else ps t)
      by_cases e : t = c
      · subst e
        rw [if_pos rfl]
        refine ⟨h.now.1.mv h.now.2 (fun j hj => ?_), h.now.2⟩
        rw [hsto 376 (by decide), a3 j (by omega) hj, hs 375 (by decide) (by decide), Nat.zero_add]
      · rw [if_neg e]
        have ht2 : t < c := by omega
        refine ⟨(hp2 t ht2).1.mv (hp2 t ht2).2 (fun j hj => ?_), (hp2 t ht2).2⟩
        rw [hsto 376 (by decide), a4 _ (by omega)]
    · rw [sto_nj hj, h362, ho j hj]
    · rw [sto_ne (by omega), a2 q b, hs q (by omega) b]
    · rw [sto_ne (by omega), a2 k (by omega), hs k (by omega) (by omega)]
  rw [hc]
  by_cases e : A.pc = 16
  · rw [if_pos (by rw [e]; rfl)]
    obtain ⟨m2, a1, a2, a3, a4⟩ := shift_loop (fun (m11 : Mem) =>
        lt (sto m11 362 18 ((m11 362 18) - (1 : Int32))) <| fun m12 =>
        (fun (m1 : Mem) =>
    fX11_notes_L51
      (fun (m5 : Mem) =>
        lt (sto m5 362 18 ((m5 362 18) + (1 : Int32))) <| fun m6 =>
        some ((), m6))
      5000 m1 (0 : Int32)) m12) 1095 5000 0 σ (by omega) (by omega)
    rw [hz] at a1
    rw [a1, lt_e]
    obtain ⟨s, b1, b2, b3⟩ := core (sto m2 362 18 (m2 362 18 - 1)) 15 (fun t => A.past (t + 1)) (by omega) (by rw [sto_eq, a2 362 (by decide), hc, e]; rfl) (fun j hj => by rw [sto_nj hj, a2 362 (by decide)]) (fun q h1 h2 => by rw [sto_ne h1, a2 q h2]) (fun t ht => by
      have := hps (t + 1) (by omega)
      refine ⟨this.1.mv this.2 (fun j hj => ?_), this.2⟩
      have e9 : 73 * t + j + 73 = 73 * (t + 1) + j := by omega
      rw [sto_ne (by decide), a3 _ (by omega) (by omega), e9])
    refine ⟨s, b1, ?_, b3⟩
    have : remA A = (A.n, A.F, A.tc, A.tp, A.lc, A.ln, A.d, 15 + 1, (fun t => if t = 15 then A.d else A.past (t + 1)), A.kept, A.rf) := by
      unfold remA psh
      simp only [e, if_true]
    rw [this]; exact b2
  · rw [if_neg (show ¬ nI A.pc = 16 from fun z => e ((nI_eq (b := 16) (by omega) (by decide)).mp z))]
    obtain ⟨s, b1, b2, b3⟩ := core σ A.pc A.past (by omega) hc (fun _ _ => rfl) (fun _ _ _ => rfl) hps
    refine ⟨s, b1, ?_, b3⟩
    have : remA A = (A.n, A.F, A.tc, A.tp, A.lc, A.ln, A.d, A.pc + 1, (fun t => if t = A.pc then A.d else A.past t), A.kept, A.rf) := by
      unfold remA psh
      simp only [e, if_false]
    rw [this]; exact b2
