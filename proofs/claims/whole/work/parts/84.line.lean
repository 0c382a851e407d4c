/-! ===== lines: bytes added ===== -/
def CL (σ : Mem) (L : List Int32) : Prop := σ 1 1 = nI L.length ∧ ∀ i (h : i < L.length), σ 2 i = L[i]
def RLn (σ : Mem) (L : List Int32) : Prop := σ 362 15 = nI L.length ∧ ∀ i (h : i < L.length), σ 374 i = L[i]
abbrev Nc (σ σ' : Mem) : Prop := ∀ q, q ≠ 1 → q ≠ 2 → σ' q = σ q
abbrev Nr (σ σ' : Mem) : Prop := (∀ q, q ≠ 362 → q ≠ 374 → σ' q = σ q) ∧ ∀ j, j ≠ 15 → σ' 362 j = σ 362 j
theorem Nc.tr {a b c : Mem} (h : Nc a b) (g : Nc b c) : Nc a c := fun q x y => (g q x y).trans (h q x y)
theorem Nr.tr {a b c : Mem} (h : Nr a b) (g : Nr b c) : Nr a c := ⟨fun q x y => (g.1 q x y).trans (h.1 q x y), fun j x => (g.2 j x).trans (h.2 j x)⟩
theorem add_ok {σ : Mem} {L : List Int32} (h : CL σ L) (hL : L.length < 64) (v : Int32) : ∃ σ', fX0_add 1 σ v = some ((), σ') ∧ CL σ' (L ++ [v]) ∧ Nc σ σ' := by
  unfold fX0_add
  rw [h.1, show al (1 + 1) = 64 from rfl, show Int32.ofNat 64 = nI 64 from rfl, if_pos (nI_lt hL (by decide)), ck_t (inb_nI hL (by decide)), lt_e, lt_e, ix_nI (by omega), sto_ne (show (1 : Nat) ≠ 1 + 1 by decide), h.1, nI_1]
  refine ⟨_, rfl, ⟨by rw [sto_eq, List.length_append]; rfl, fun i hi => ?_⟩, fun q a b => by rw [sto_ne a, sto_ne b]⟩
  rw [sto_ne (by decide)]
  rw [List.length_append] at hi
  by_cases e : i < L.length
  · rw [sto_nj (by omega), List.getElem_append_left e]; exact h.2 i e
  · have : i = L.length := by simp at hi; omega
    subst this
    rw [sto_eq]; simp
theorem says_ok {σ : Mem} {L : List Int32} (h : RLn σ L) (hL : L.length < 64) (v : Int32) : ∃ σ', fX11_says σ v = some ((), σ') ∧ RLn σ' (L ++ [v]) ∧ Nr σ σ' := by
  unfold fX11_says
  rw [h.1, ck_t (inb_nI hL (by decide)), lt_e, lt_e, ix_nI (by omega), sto_ne (show (362 : Nat) ≠ 374 by decide), h.1, nI_1]
  refine ⟨_, rfl, ⟨by rw [sto_eq, List.length_append]; rfl, fun i hi => ?_⟩, fun q a b => by rw [sto_ne a, sto_ne b], fun j hj => by rw [sto_nj hj, sto_ne (by decide)]⟩
  rw [sto_ne (by decide)]
  rw [List.length_append] at hi
  by_cases e : i < L.length
  · rw [sto_nj (by omega), List.getElem_append_left e]; exact h.2 i e
  · have : i = L.length := by simp at hi; omega
    subst this
    rw [sto_eq]; simp
theorem modN {x d : Nat} (h : x < 2 ^ 20) (hd : d < 2 ^ 20) (h0 : 0 < d) : (nI x) % (nI d) = nI (x % d) := by
  apply Int32.toInt_inj.mp
  have := Nat.mod_lt x h0
  rw [Int32.toInt_mod, nI_toInt (by omega), nI_toInt (by omega), nI_toInt (by omega), Int.tmod_eq_emod_of_nonneg (by omega)]
  omega
theorem divN {x d : Nat} (h : x < 2 ^ 20) (hd : d < 2 ^ 20) (h0 : 0 < d) : (nI x) / (nI d) = nI (x / d) := pk_div (by omega) (by omega) (by omega)
/-- a digit, digits, a number -/
def dgt (m u : Nat) : Int32 := nI (48 + m / u % 10)
def dg (m : Nat) : List Int32 := (if 1000 ≤ m then [dgt m 1000] else []) ++ ((if 100 ≤ m then [dgt m 100] else []) ++ ((if 10 ≤ m then [dgt m 10] else []) ++ [dgt m 1]))
def numL (v : Int32) : List Int32 := if v < 0 then 45 :: dg (ix (-v)) else dg (ix v)
theorem dg_len (m : Nat) : (dg m).length ≤ 4 := by
  unfold dg
  rw [List.length_append, List.length_append, List.length_append]
  have h1 : (if 1000 ≤ m then [dgt m 1000] else []).length ≤ 1 := by split <;> simp
  have h2 : (if 100 ≤ m then [dgt m 100] else []).length ≤ 1 := by split <;> simp
  have h3 : (if 10 ≤ m then [dgt m 10] else []).length ≤ 1 := by split <;> simp
  simp only [List.length_cons, List.length_nil]
  omega
theorem numL_len (v : Int32) : (numL v).length ≤ 5 := by
  unfold numL
  split
  · rw [List.length_cons]; have := dg_len (ix (-v)); omega
  · have := dg_len (ix v); omega
theorem dgt_e {m u : Nat} (hm : m < 10000) (hu : u < 10000) (h0 : 0 < u) : (48 : Int32) + ((nI m / nI u) % 10) = dgt m u := by
  have h1 : m / u ≤ m := Nat.div_le_self m u
  rw [divN (by omega) (by omega) h0, show (10 : Int32) = nI 10 from rfl, modN (by omega) (by decide) (by decide), show (48 : Int32) = nI 48 from rfl, nI_add]; rfl
/-- one unit of the class -/
theorem unit_ok {σ : Mem} {L : List Int32} (h : CL σ L) (hL : L.length < 64) {m u : Nat} (hm : m < 10000) (hu : u < 10000) (h0 : 0 < u) (kk : Mem → Option (Unit × Mem)) (n : Nat) :
    ∃ σ', fX0_addNumber_L19 kk 1 (nI m) (n + 1) σ (nI u) = fX0_addNumber_L19 kk 1 (nI m) n σ' (nI (u / 10)) ∧ CL σ' (L ++ if u ≤ m ∨ u = 1 then [dgt m u] else []) ∧ Nc σ σ' := by
  show ∃ σ', fX0_addNumber_L19_b kk 1 (nI m) (fX0_addNumber_L19 kk 1 (nI m) n) σ (nI u) = _ ∧ _
  unfold fX0_addNumber_L19_b
  obtain ⟨s, a1, a2, a3⟩ := add_ok h hL (dgt m u)
  have hne : (nI u != 0) = true := by
    have := nI_ne0 (n := u) h0 (by omega)
    simpa using this
  rw [if_pos (show (0 : Int32) < nI u from nI_lt (a := 0) h0 (by omega))]
  simp only [lt_e]
  rw [ck_t hne, dgt_e hm hu h0, a1, cl_s, show (10 : Int32) = nI 10 from rfl, divN (by omega) (by decide) (by decide)]
  by_cases c : m < u
  · rw [if_pos (nI_lt c (by omega))]
    by_cases e : u = 1
    · rw [if_pos (show nI u = 1 by rw [e]; rfl), if_pos (Or.inr e)]
      exact ⟨s, rfl, a2, a3⟩
    · rw [if_neg (show ¬ nI u = 1 from fun z => e ((nI_eq (b := 1) (by omega) (by decide)).mp z)), if_neg (by omega), List.append_nil]
      exact ⟨σ, rfl, h, fun _ _ _ => rfl⟩
  · rw [if_neg (nI_nlt (by omega) (by omega)), if_pos (Or.inl (by omega))]
    exact ⟨s, rfl, a2, a3⟩
theorem addDigits {σ : Mem} {L : List Int32} (h : CL σ L) (hL : L.length < 60) {m : Nat} (hm : m < 10000) (kk : Mem → Option (Unit × Mem)) :
    ∃ σ', fX0_addNumber_L19 kk 1 (nI m) 5000 σ 1000 = kk σ' ∧ CL σ' (L ++ dg m) ∧ Nc σ σ' := by
  obtain ⟨s1, a1, a2, a3⟩ := unit_ok (u := 1000) h (by omega) hm (by decide) (by decide) kk 4999
  have l1 : (L ++ if 1000 ≤ m ∨ 1000 = 1 then [dgt m 1000] else []).length ≤ L.length + 1 := by rw [List.length_append]; split <;> simp
  obtain ⟨s2, b1, b2, b3⟩ := unit_ok (u := 100) a2 (by omega) hm (by decide) (by decide) kk 4998
  have l2 : ((L ++ if 1000 ≤ m ∨ 1000 = 1 then [dgt m 1000] else []) ++ if 100 ≤ m ∨ 100 = 1 then [dgt m 100] else []).length ≤ L.length + 2 := by
    rw [List.length_append]
    have : (if 100 ≤ m ∨ 100 = 1 then [dgt m 100] else []).length ≤ 1 := by split <;> simp
    omega
  obtain ⟨s3, c1, c2, c3⟩ := unit_ok (u := 10) b2 (by omega) hm (by decide) (by decide) kk 4997
  have l3 : (((L ++ if 1000 ≤ m ∨ 1000 = 1 then [dgt m 1000] else []) ++ if 100 ≤ m ∨ 100 = 1 then [dgt m 100] else []) ++ if 10 ≤ m ∨ 10 = 1 then [dgt m 10] else []).length ≤ L.length + 3 := by
    rw [List.length_append]
    have : (if 10 ≤ m ∨ 10 = 1 then [dgt m 10] else []).length ≤ 1 := by split <;> simp
    omega
  obtain ⟨s4, d1, d2, d3⟩ := unit_ok (u := 1) c2 (by omega) hm (by decide) (by decide) kk 4996
  refine ⟨s4, ?_, ?_, a3.tr (b3.tr (c3.tr d3))⟩
  · rw [show (1000 : Int32) = nI 1000 from rfl, a1, show 1000 / 10 = 100 from rfl, b1, show 100 / 10 = 10 from rfl, c1, show 10 / 10 = 1 from rfl, d1]
    rfl
  · have : L ++ dg m = (((L ++ if 1000 ≤ m ∨ 1000 = 1 then [dgt m 1000] else []) ++ if 100 ≤ m ∨ 100 = 1 then [dgt m 100] else []) ++ if 10 ≤ m ∨ 10 = 1 then [dgt m 10] else []) ++ if 1 ≤ m ∨ 1 = 1 then [dgt m 1] else [] := by
      unfold dg
      simp
    rw [this]; exact d2
/-- numbers that lines have -/
def Nrg (v : Int32) : Prop := (∃ m, m < 4096 ∧ v = nI m) ∨ ∃ m, 0 < m ∧ m < 257 ∧ v = -nI m
theorem negm : ∀ m, m < 257 → 0 < m → -nI m < 0 := by decide +kernel
theorem addNumber_ok {σ : Mem} {L : List Int32} (h : CL σ L) (hL : L.length < 59) {v : Int32} (hv : Nrg v) : ∃ σ', fX0_addNumber 1 σ v = some ((), σ') ∧ CL σ' (L ++ numL v) ∧ Nc σ σ' := by
  unfold fX0_addNumber numL
  simp only [lt_e]
  rcases hv with ⟨m, hm, rfl⟩ | ⟨m, h0, hm, rfl⟩
  · rw [if_neg (nI_pos (by omega)), if_neg (nI_pos (by omega)), ix_nI (by omega)]
    exact addDigits h (by omega) (by omega) (fun m8 => some ((), m8))
  · rw [if_pos (negm m hm h0), if_pos (negm m hm h0), Int32.neg_neg, ix_nI (by omega)]
    obtain ⟨s, a1, a2, a3⟩ := add_ok h (by omega) 45
    rw [a1, cl_s]
    obtain ⟨s2, b1, b2, b3⟩ := addDigits a2 (by rw [List.length_append]; simp; omega) (show m < 10000 by omega) (fun m8 => some ((), m8))
    refine ⟨s2, b1, ?_, a3.tr b3⟩
    rw [List.append_assoc] at b2; exact b2
/-- the reference's -/
theorem rdig {σ : Mem} {L : List Int32} (h : RLn σ L) (hL : L.length < 64) {m u : Nat} (hm : m < 10000) (hu : u < 10000) (h0 : 0 < u) (kk : Mem → Option (Unit × Mem)) (n : Nat) :
    ∃ σ', fX11_saysNumber_L39 kk (nI m) (n + 1) σ (nI u) = fX11_saysNumber_L39 kk (nI m) n σ' (nI (u / 10)) ∧ RLn σ' (L ++ [dgt m u]) ∧ Nr σ σ' := by
  show ∃ σ', fX11_saysNumber_L39_b kk (nI m) (fX11_saysNumber_L39 kk (nI m) n) σ (nI u) = _ ∧ _
  unfold fX11_saysNumber_L39_b
  obtain ⟨s, a1, a2, a3⟩ := says_ok h hL (dgt m u)
  have hne : (nI u != 0) = true := by
    have := nI_ne0 (n := u) h0 (by omega)
    simpa using this
  rw [if_pos (show (0 : Int32) < nI u from nI_lt (a := 0) h0 (by omega)), ck_t hne, dgt_e hm hu h0, a1, cl_s, lt_e, show (10 : Int32) = nI 10 from rfl, divN (by omega) (by decide) (by decide)]
  exact ⟨s, rfl, a2, a3⟩
theorem rby {σ : Mem} {m u : Nat} (hm : m < 10000) (hu : u < 10000) (h0 : 0 < u) (kk : Int32 → Option (Unit × Mem)) (n : Nat) :
    fX11_saysNumber_L23 kk σ (nI m) (n + 1) (nI u) = if 9 < m / u then fX11_saysNumber_L23 kk σ (nI m) n (nI (u * 10)) else kk (nI u) := by
  show fX11_saysNumber_L23_b kk σ (nI m) (fX11_saysNumber_L23 kk σ (nI m) n) (nI u) = _
  unfold fX11_saysNumber_L23_b
  have hne : (nI u != 0) = true := by
    have := nI_ne0 (n := u) h0 (by omega)
    simpa using this
  have h1 : m / u ≤ m := Nat.div_le_self m u
  rw [ck_t hne, divN (by omega) (by omega) h0, lt_e, show (10 : Int32) = nI 10 from rfl, pk_mul]
  by_cases c : 9 < m / u
  · rw [if_pos (show 9 < nI (m / u) from nI_lt (a := 9) c (by omega)), if_pos c]
  · rw [if_neg (show ¬ 9 < nI (m / u) from nI_nlt (a := 9) (by omega) (by omega)), if_neg c]
theorem saysDigits {σ : Mem} {L : List Int32} (h : RLn σ L) (hL : L.length < 60) {m : Nat} (hm : m < 10000) :
    ∃ σ', fX11_saysNumber_L23 (fun (x7 : Int32) => fX11_saysNumber_L39 (fun (m12 : Mem) => some ((), m12)) (nI m) 5000 σ x7) σ (nI m) 5000 (1 : Int32) = some ((), σ') ∧ RLn σ' (L ++ dg m) ∧ Nr σ σ' := by
  have by1 := rby (σ := σ) (u := 1) hm (by decide) (by decide) (fun (x7 : Int32) => fX11_saysNumber_L39 (fun (m12 : Mem) => some ((), m12)) (nI m) 5000 σ x7) 4999
  have by2 := rby (σ := σ) (u := 10) hm (by decide) (by decide) (fun (x7 : Int32) => fX11_saysNumber_L39 (fun (m12 : Mem) => some ((), m12)) (nI m) 5000 σ x7) 4998
  have by3 := rby (σ := σ) (u := 100) hm (by decide) (by decide) (fun (x7 : Int32) => fX11_saysNumber_L39 (fun (m12 : Mem) => some ((), m12)) (nI m) 5000 σ x7) 4997
  have by4 := rby (σ := σ) (u := 1000) hm (by decide) (by decide) (fun (x7 : Int32) => fX11_saysNumber_L39 (fun (m12 : Mem) => some ((), m12)) (nI m) 5000 σ x7) 4996
  rw [show (1 : Int32) = nI 1 from rfl, by1]
  have hend : ∀ n σ, fX11_saysNumber_L39 (fun (m12 : Mem) => some ((), m12)) (nI m) (n + 1) σ (nI (1 / 10)) = some ((), σ) := fun _ _ => rfl
  by_cases c1 : m < 10
  · rw [if_neg (by omega)]
    obtain ⟨s1, a1, a2, a3⟩ := rdig (u := 1) h (by omega) hm (by decide) (by decide) (fun m12 => some ((), m12)) 4999
    refine ⟨s1, by show fX11_saysNumber_L39 _ _ _ _ _ = _; rw [a1, hend], ?_, a3⟩
    have : dg m = [dgt m 1] := by unfold dg; rw [if_neg (by omega), if_neg (by omega), if_neg (by omega)]; rfl
    rw [this]; exact a2
  rw [if_pos (by omega), show 1 * 10 = 10 from rfl, by2]
  by_cases c2 : m < 100
  · rw [if_neg (by omega)]
    obtain ⟨s1, a1, a2, a3⟩ := rdig (u := 10) h (by omega) hm (by decide) (by decide) (fun m12 => some ((), m12)) 4999
    obtain ⟨s2, b1, b2, b3⟩ := rdig (u := 1) a2 (by rw [List.length_append]; simp; omega) hm (by decide) (by decide) (fun m12 => some ((), m12)) 4998
    refine ⟨s2, by show fX11_saysNumber_L39 _ _ _ _ _ = _; rw [a1, show 10 / 10 = 1 from rfl, b1, hend], ?_, a3.tr b3⟩
    have : dg m = [dgt m 10] ++ [dgt m 1] := by unfold dg; rw [if_neg (by omega), if_neg (by omega), if_pos (by omega)]; rfl
    rw [this, ← List.append_assoc]; exact b2
  rw [if_pos (by omega), show 10 * 10 = 100 from rfl, by3]
  by_cases c3 : m < 1000
  · rw [if_neg (by omega)]
    obtain ⟨s1, a1, a2, a3⟩ := rdig (u := 100) h (by omega) hm (by decide) (by decide) (fun m12 => some ((), m12)) 4999
    obtain ⟨s2, b1, b2, b3⟩ := rdig (u := 10) a2 (by rw [List.length_append]; simp; omega) hm (by decide) (by decide) (fun m12 => some ((), m12)) 4998
    obtain ⟨s3, d1, d2, d3⟩ := rdig (u := 1) b2 (by rw [List.length_append, List.length_append]; simp; omega) hm (by decide) (by decide) (fun m12 => some ((), m12)) 4997
    refine ⟨s3, by show fX11_saysNumber_L39 _ _ _ _ _ = _; rw [a1, show 100 / 10 = 10 from rfl, b1, show 10 / 10 = 1 from rfl, d1, hend], ?_, a3.tr (b3.tr d3)⟩
    have : dg m = [dgt m 100] ++ ([dgt m 10] ++ [dgt m 1]) := by unfold dg; rw [if_neg (by omega), if_pos (by omega), if_pos (by omega)]; rfl
    rw [this, ← List.append_assoc, ← List.append_assoc]; exact d2
  · rw [if_pos (by omega), show 100 * 10 = 1000 from rfl, by4, if_neg (by omega)]
    obtain ⟨s1, a1, a2, a3⟩ := rdig (u := 1000) h (by omega) hm (by decide) (by decide) (fun m12 => some ((), m12)) 4999
    obtain ⟨s2, b1, b2, b3⟩ := rdig (u := 100) a2 (by rw [List.length_append]; simp; omega) hm (by decide) (by decide) (fun m12 => some ((), m12)) 4998
    obtain ⟨s3, d1, d2, d3⟩ := rdig (u := 10) b2 (by rw [List.length_append, List.length_append]; simp; omega) hm (by decide) (by decide) (fun m12 => some ((), m12)) 4997
    obtain ⟨s4, e1, e2, e3⟩ := rdig (u := 1) d2 (by rw [List.length_append, List.length_append, List.length_append]; simp; omega) hm (by decide) (by decide) (fun m12 => some ((), m12)) 4996
    refine ⟨s4, by show fX11_saysNumber_L39 _ _ _ _ _ = _; rw [a1, show 1000 / 10 = 100 from rfl, b1, show 100 / 10 = 10 from rfl, d1, show 10 / 10 = 1 from rfl, e1, hend], ?_, a3.tr (b3.tr (d3.tr e3))⟩
    have : dg m = [dgt m 1000] ++ ([dgt m 100] ++ ([dgt m 10] ++ [dgt m 1])) := by unfold dg; rw [if_pos (by omega), if_pos (by omega), if_pos (by omega)]
    rw [this, ← List.append_assoc, ← List.append_assoc, ← List.append_assoc]; exact e2
theorem saysNumber_ok {σ : Mem} {L : List Int32} (h : RLn σ L) (hL : L.length < 59) {v : Int32} (hv : Nrg v) : ∃ σ', fX11_saysNumber σ v = some ((), σ') ∧ RLn σ' (L ++ numL v) ∧ Nr σ σ' := by
  unfold fX11_saysNumber numL
  simp only [lt_e]
  rcases hv with ⟨m, hm, rfl⟩ | ⟨m, h0, hm, rfl⟩
  · rw [if_neg (nI_pos (by omega)), if_neg (nI_pos (by omega)), ix_nI (by omega)]
    rw [if_neg (nI_pos (by omega))]
    exact saysDigits h (by omega) (by omega)
  · rw [if_pos (negm m hm h0), if_pos (negm m hm h0), Int32.neg_neg, ix_nI (by omega)]
    obtain ⟨s, a1, a2, a3⟩ := says_ok h (by omega) 45
    rw [a1, cl_s, if_pos (negm m hm h0)]
    obtain ⟨s2, b1, b2, b3⟩ := saysDigits a2 (by rw [List.length_append]; simp; omega) (show m < 10000 by omega)
    refine ⟨s2, b1, ?_, a3.tr b3⟩
    rw [List.append_assoc] at b2; exact b2
theorem num_rg {f : Fm} {l : Nat} (h8 : cnt (fl f l) 12 ≤ 8) (w : Int32) : Nrg (num f l w) := by
  unfold num numP
  have hlen := dsc_len (fl f l) 12
  have hlt := valN_lt w (dsc (fl f l) 12)
  have hp : 2 ^ (dsc (fl f l) 12).length ≤ 2 ^ 8 := Nat.pow_le_pow_right (by decide) (by omega)
  generalize 2 ^ (dsc (fl f l) 12).length = P at *
  generalize valN w (dsc (fl f l) 12) 0 = V at *
  split
  · right
    refine ⟨P - V, by omega, by omega, ?_⟩
    have : nI P - nI V = nI (P - V) := pk_sub (by omega)
    rw [← this]
    grind
  · left
    exact ⟨V, by omega, rfl⟩
