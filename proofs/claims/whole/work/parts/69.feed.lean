/-! ===== feed ===== -/
def byt (y : Int64) (i : Nat) : Nat := y.toBitVec.toNat / 2 ^ (8 * i) % 256
theorem um64 : ∀ i, i < 8 → ((((8 : Int32) * nI i).toInt64.toUInt64 &&& Int64.toUInt64 63).toBitVec % 64).toNat = 8 * i := by decide
theorem sm64 : ∀ i, i < 8 → ((((8 : Int32) * nI i).toInt64 &&& 63).toBitVec.smod 64).toNat = 8 * i := by decide
theorem byt_bt {y : Int64} {i : Nat} (b : Nat) : bt (nI (byt y i)) b = (decide (b < 8) && y.toBitVec.getLsbD (8 * i + b)) := by
  rw [bt_nI (by unfold byt; omega), byt, show (256 : Nat) = 2 ^ 8 from rfl, Nat.testBit_mod_two_pow, Nat.testBit_div_two_pow, Nat.add_comm b]
  rfl
theorem bt255 (b : Nat) : bt 255 b = decide (b < 8) := by
  rw [show (255 : Int32) = nI (2 ^ 8 - 1) from rfl, bt_nI (n := 2 ^ 8 - 1) (by decide), Nat.testBit_two_pow_sub_one]
theorem cbyte (y : Int64) {i : Nat} (hi : i < 8) : ((lushr y ((8 : Int32) * nI i)).toInt32 &&& 255) = nI (byt y i) := by
  apply bt_ext
  intro b hb
  rw [bt_and, bt255, byt_bt, Bool.and_comm]
  by_cases h : b < 8
  · simp only [h, decide_true, Bool.true_and]
    unfold bt lushr
    have h64 : b < 64 := by omega
    rw [Int64.toBitVec_toInt32, BitVec.getLsbD_signExtend]
    show (decide (b < 32) && if b < 64 then (y.toBitVec >>> ((((8 : Int32) * nI i).toInt64.toUInt64 &&& Int64.toUInt64 63).toBitVec % 64)).getLsbD b else _) = _
    rw [if_pos h64, BitVec.ushiftRight_eq', um64 i hi, BitVec.getLsbD_ushiftRight]
    simp [hb]
  · simp [h]
theorem rbyte (y : Int64) {i : Nat} (hi : i < 8) : ((y >>> (((8 : Int32) * nI i).toInt64 &&& 63)) &&& 255).toInt32 = nI (byt y i) := by
  apply bt_ext
  intro b hb
  rw [byt_bt]
  unfold bt
  have h64 : b < 64 := by omega
  rw [Int64.toBitVec_toInt32, BitVec.getLsbD_signExtend, if_pos h64, Int64.toBitVec_and, BitVec.getLsbD_and]
  have h255 : (Int64.toBitVec 255).getLsbD b = decide (b < 8) := by
    show (BitVec.ofNat 64 255).getLsbD b = _
    rw [BitVec.getLsbD_ofNat, show (255 : Nat) = 2 ^ 8 - 1 from rfl, Nat.testBit_two_pow_sub_one]
    by_cases h : b < 8
    · have : b < 64 := by omega
      simp [h, this]
    · simp [h]
  rw [h255]
  show (decide (b < 32) && ((y.toBitVec.sshiftRight' ((((8 : Int32) * nI i).toInt64 &&& 63).toBitVec.smod 64)).getLsbD b && decide (b < 8))) = _
  rw [BitVec.getLsbD_sshiftRight', sm64 i hi]
  by_cases h : b < 8
  · have h1 : ¬ 64 ≤ b := by omega
    have h2 : 8 * i + b < 64 := by omega
    simp [h, hb, h1, h2]
  · simp [h]
/-- loops that count up to N, or end before -/
theorem loopX {R : Type} (f : Nat → Int32 → Option R) (b : (Int32 → Option R) → Int32 → Option R) (hf : ∀ n x, f (n + 1) x = b (f n) x) (N : Nat) (I : Nat → Prop) (Q : Option R → Prop)
    (he : ∀ rec, I N → Q (b rec (nI N))) (h : ∀ i rec, i < N → I i → Q (b rec (nI i)) ∨ (I (i + 1) ∧ b rec (nI i) = rec (nI (i + 1)))) : ∀ fuel i, i ≤ N → N - i < fuel → I i → Q (f fuel (nI i)) := by
  intro fuel
  induction fuel with
  | zero => intro i _ hn; omega
  | succ n ih =>
    intro i hi hn hI
    rw [hf]
    by_cases e : i = N
    · subst e; exact he _ hI
    · rcases h i (f n) (by omega) hI with h1 | ⟨h2, h3⟩
      · exact h1
      · rw [h3]; exact ih (i + 1) (by omega) (by omega) h2
theorem loopM {S R : Type} (f : Nat → S → Int32 → Option R) (b : (S → Int32 → Option R) → S → Int32 → Option R) (hf : ∀ n s x, f (n + 1) s x = b (f n) s x) (N : Nat) (I : Nat → S → Prop) (Q : Option R → Prop)
    (he : ∀ m rec, I N m → Q (b rec m (nI N))) (h : ∀ i m rec, i < N → I i m → Q (b rec m (nI i)) ∨ ∃ m', I (i + 1) m' ∧ b rec m (nI i) = rec m' (nI (i + 1))) : ∀ fuel i m, i ≤ N → N - i < fuel → I i m → Q (f fuel m (nI i)) := by
  intro fuel
  induction fuel with
  | zero => intro i m _ hn; omega
  | succ n ih =>
    intro i m hi hn hI
    rw [hf]
    by_cases e : i = N
    · subst e; exact he _ _ hI
    · rcases h i m (f n) (by omega) hI with h1 | ⟨m', h2, h3⟩
      · exact h1
      · rw [h3]; exact ih (i + 1) m' (by omega) (by omega) h2
theorem loopA {S T R : Type} (f : Nat → S → T → Int32 → Option R) (b : (S → T → Int32 → Option R) → S → T → Int32 → Option R) (hf : ∀ n s t x, f (n + 1) s t x = b (f n) s t x) (N : Nat) (I : Nat → S → T → Prop) (Q : Option R → Prop)
    (he : ∀ m t rec, I N m t → Q (b rec m t (nI N))) (h : ∀ i m t rec, i < N → I i m t → Q (b rec m t (nI i)) ∨ ∃ m' t', I (i + 1) m' t' ∧ b rec m t (nI i) = rec m' t' (nI (i + 1))) : ∀ fuel i m t, i ≤ N → N - i < fuel → I i m t → Q (f fuel m t (nI i)) := by
  intro fuel
  induction fuel with
  | zero => intro i m t _ hn; omega
  | succ n ih =>
    intro i m t hi hn hI
    rw [hf]
    by_cases e : i = N
    · subst e; exact he _ _ _ hI
    · rcases h i m t (f n) (by omega) hI with h1 | ⟨m', t', h2, h3⟩
      · exact h1
      · rw [h3]; exact ih (i + 1) m' t' (by omega) (by omega) h2
def setT (A : Ab) (c : Nat) (tp : Nat → Nat) : Ab := (A.n, A.F, c, tp, A.lc, A.ln, A.d, A.pc, A.past, A.kept, A.rf)
def setL (A : Ab) (c : Nat) (ln : Nat → Int32) : Ab := (A.n, A.F, A.tc, A.tp, c, ln, A.d, A.pc, A.past, A.kept, A.rf)
theorem CInv.setT {σ σ' : Mem} {A : Ab} {c : Nat} {tp : Nat → Nat} (h : CInv σ A) (hs : ∀ q, q < 362 → q ≠ 281 → q ≠ 282 → ¬ (287 ≤ q ∧ q < 298) → σ' q = σ q) (ht : CTape σ' c tp) : CInv σ' (setT A c tp) :=
  ⟨h.mean.congr (fun q a b => hs q (by omega) (by omega) (by omega) (by omega)), h.sg.congr (fun q a b => hs q (by omega) (by omega) (by omega) (by omega)), h.thr.congr (fun q a b _ _ => hs q (by omega) (by omega) (by omega) (by omega)), ht, h.line.congr (hs _ (by decide) (by decide) (by decide) (by decide)) (hs _ (by decide) (by decide) (by decide) (by decide)), ⟨h.now.1.congr (fun q a b => hs q (by omega) (by omega) (by omega) (by omega)), h.now.2⟩, h.past.congr (by rw [hs 0 (by decide) (by decide) (by decide) (by decide)]) (by rw [hs 0 (by decide) (by decide) (by decide) (by decide)]) (fun q a b => hs q (by omega) (by omega) (by omega) (by omega)), h.kept.congr (by rw [hs 0 (by decide) (by decide) (by decide) (by decide)]) (fun q a b => hs q (by omega) (by omega) (by omega) (by omega)), fun i hi => by rw [hs 8 (by decide) (by decide) (by decide) (by decide)]; exact h.ref i hi⟩
theorem CInv.setL {σ σ' : Mem} {A : Ab} {c : Nat} {ln : Nat → Int32} (h : CInv σ A) (hs : ∀ q, q < 362 → q ≠ 1 → q ≠ 2 → ¬ (287 ≤ q ∧ q < 298) → σ' q = σ q) (ht : CLine σ' c ln) : CInv σ' (setL A c ln) :=
  ⟨h.mean.congr (fun q a b => hs q (by omega) (by omega) (by omega) (by omega)), h.sg.congr (fun q a b => hs q (by omega) (by omega) (by omega) (by omega)), h.thr.congr (fun q a b _ _ => hs q (by omega) (by omega) (by omega) (by omega)), h.tape.congr (hs _ (by decide) (by decide) (by decide) (by decide)) (hs _ (by decide) (by decide) (by decide) (by decide)), ht, ⟨h.now.1.congr (fun q a b => hs q (by omega) (by omega) (by omega) (by omega)), h.now.2⟩, h.past.congr (by rw [hs 0 (by decide) (by decide) (by decide) (by decide)]) (by rw [hs 0 (by decide) (by decide) (by decide) (by decide)]) (fun q a b => hs q (by omega) (by omega) (by omega) (by omega)), h.kept.congr (by rw [hs 0 (by decide) (by decide) (by decide) (by decide)]) (fun q a b => hs q (by omega) (by omega) (by omega) (by omega)), fun i hi => by rw [hs 8 (by decide) (by decide) (by decide) (by decide)]; exact h.ref i hi⟩
theorem RInv.setT {σ σ' : Mem} {A : Ab} {c : Nat} {tp : Nat → Nat} (h : RInv σ A) (hs : ∀ q, 363 ≤ q → q < 383 → q ≠ 373 → σ' q = σ q) (ho : ∀ j, j < 27 → j ≠ 13 → σ' 362 j = σ 362 j) (ht : RTape σ' c tp) : RInv σ' (setT A c tp) :=
  ⟨h.forms.congr (ho _ (by decide) (by decide)) (fun q a b => hs q (by omega) (by omega) (by omega)), h.lk.congr (ho _ (by decide) (by decide)) (hs _ (by decide) (by decide) (by decide)) (hs _ (by decide) (by decide) (by decide)), ht, h.line.congr (ho _ (by decide) (by decide)) (hs _ (by decide) (by decide) (by decide)), ⟨h.now.1.congr (hs _ (by decide) (by decide) (by decide)), h.now.2⟩, h.past.congr (ho _ (by decide) (by decide)) (hs _ (by decide) (by decide) (by decide)), h.kept.congr (ho _ (by decide) (by decide)) (ho _ (by decide) (by decide)) (fun q a b => hs q (by omega) (by omega) (by omega)), fun i hi => by rw [hs 363 (by decide) (by decide) (by decide)]; exact h.ref i hi⟩
theorem RInv.setL {σ σ' : Mem} {A : Ab} {c : Nat} {ln : Nat → Int32} (h : RInv σ A) (hs : ∀ q, 363 ≤ q → q < 383 → q ≠ 374 → σ' q = σ q) (ho : ∀ j, j < 27 → j ≠ 15 → σ' 362 j = σ 362 j) (ht : RLine σ' c ln) : RInv σ' (setL A c ln) :=
  ⟨h.forms.congr (ho _ (by decide) (by decide)) (fun q a b => hs q (by omega) (by omega) (by omega)), h.lk.congr (ho _ (by decide) (by decide)) (hs _ (by decide) (by decide) (by decide)) (hs _ (by decide) (by decide) (by decide)), h.tape.congr (ho _ (by decide) (by decide)) (hs _ (by decide) (by decide) (by decide)), ht, ⟨h.now.1.congr (hs _ (by decide) (by decide) (by decide)), h.now.2⟩, h.past.congr (ho _ (by decide) (by decide)) (hs _ (by decide) (by decide) (by decide)), h.kept.congr (ho _ (by decide) (by decide)) (ho _ (by decide) (by decide)) (fun q a b => hs q (by omega) (by omega) (by omega)), fun i hi => by rw [hs 363 (by decide) (by decide) (by decide)]; exact h.ref i hi⟩
def fedT (A : Ab) (y : Int64) : Nat → Nat := fun i => if i < A.tc then A.tp i else byt y (i - A.tc)
def gFeed (y : Int64) (a : Int32) (A : Ab) : Int32 × Ab := if 1 ≤ a ∧ a ≤ 8 then (if 200 < A.tc + ix a then bad2 A else (nI (A.tc + ix a), setT A (A.tc + ix a) (fedT A y))) else bad A
theorem fedT_s {A : Ab} {y : Int64} {i : Nat} : fedT A y (A.tc + i) = byt y i := by
  unfold fedT
  rw [if_neg (by omega), Nat.add_sub_cancel_left]
theorem byt_lt (y : Int64) (i : Nat) : byt y i < 256 := by unfold byt; omega
theorem of18 {a : Int32} (h : 1 ≤ a ∧ a ≤ 8) : ∃ n, 1 ≤ n ∧ n ≤ 8 ∧ a = nI n := by
  obtain ⟨n, hn, e⟩ := rngL (n := 8) ⟨Int32.le_trans (show (0 : Int32) ≤ 1 by decide) h.1, h.2⟩ (by decide)
  refine ⟨n, ?_, hn, e⟩
  rcases Nat.eq_zero_or_pos n with z | z
  · subst z; rw [e] at h; exact absurd h.1 (by decide)
  · exact z
theorem CTape.add {σ : Mem} {c : Nat} {tp : Nat → Nat} (h : CTape σ c tp) (hc : c < 200) (hx : tp c < 256) : CTape (sto (sto σ 282 c (nI (tp c))) 281 1 (nI (c + 1))) (c + 1) tp := by
  refine ⟨sto_eq, by omega, fun i hi => ?_⟩
  rw [sto_ne (by decide)]
  by_cases e : i = c
  · subst e; exact ⟨sto_eq, hx⟩
  · rw [sto_nj e]; exact h.2.2 i (by omega)
theorem RTape.add {σ : Mem} {c : Nat} {tp : Nat → Nat} (h : RTape σ c tp) (hc : c < 200) (hx : tp c < 256) : RTape (sto (sto σ 373 c (nI (tp c))) 362 13 (nI (c + 1))) (c + 1) tp := by
  refine ⟨sto_eq, by omega, fun i hi => ?_⟩
  rw [sto_ne (by decide)]
  by_cases e : i = c
  · subst e; exact ⟨sto_eq, hx⟩
  · rw [sto_nj e]; exact h.2.2 i (by omega)
theorem CTape.fed {σ : Mem} {A : Ab} (h : CTape σ A.tc A.tp) (y : Int64) : CTape σ A.tc (fedT A y) := ⟨h.1, h.2.1, fun i hi => by rw [fedT, if_pos hi]; exact h.2.2 i hi⟩
theorem RTape.fed {σ : Mem} {A : Ab} (h : RTape σ A.tc A.tp) (y : Int64) : RTape σ A.tc (fedT A y) := ⟨h.1, h.2.1, fun i hi => by rw [fedT, if_pos hi]; exact h.2.2 i hi⟩
theorem cs_feed (y : Int64) (a : Int32) : CS (fun σ => fX10_feed σ y a) (gFeed y a) := by
  intro σ A h
  show ∃ σ', fX10_feed σ y a = _ ∧ _
  unfold fX10_feed gFeed
  rw [within_ok, cl_s]
  by_cases c : 1 ≤ a ∧ a ≤ 8
  case neg => rw [if_neg c, if_neg c, if_pos rfl]; exact cbad h
  obtain ⟨n, h1, h8, rfl⟩ := of18 c
  have hc := h.tape.2.1
  rw [if_pos c, if_neg (by decide), if_pos c, h.tape.1, ix_nI (by omega), show (200 : Int32) = nI 200 from rfl, pk_sub hc]
  by_cases e : 200 < A.tc + n
  case pos => rw [if_pos (nI_lt (by omega) (by omega)), if_pos e]; exact cbad2 h
  rw [if_neg (nI_nlt (by omega) (by omega)), if_neg e]
  refine loopM (fX10_feed_L44 (fun (m12 : Mem) => some ((m12 281 1), m12)) y (nI n)) (fX10_feed_L44_b (fun (m12 : Mem) => some ((m12 281 1), m12)) y (nI n)) (fun _ _ _ => rfl) n
    (fun i m => CTape m (A.tc + i) (fedT A y) ∧ ∀ q, q ≠ 281 → q ≠ 282 → m q = σ q)
    (fun r => ∃ σ', r = some (nI (A.tc + n), σ') ∧ CInv σ' (setT A (A.tc + n) (fedT A y)) ∧ Hi σ σ') ?_ ?_ 5000 0 σ (by omega) (by omega) ⟨h.tape.fed y, fun _ _ _ => rfl⟩
  · rintro m rec ⟨ht, hs⟩
    unfold fX10_feed_L44_b
    rw [if_neg (nI_nlt (by omega) (by omega))]
    exact ⟨m, by show some (m _ _, m) = _; rw [ht.1], h.setT (fun q _ h1 h2 _ => hs q h1 h2) ht, fun k hk => hs k (by omega) (by omega)⟩
  · rintro i m rec e2 ⟨ht, hs⟩
    refine Or.inr ⟨_, ⟨ht.add (by omega) (by rw [fedT_s]; exact byt_lt y i), fun q h1 h2 => by rw [sto_ne h1, sto_ne h2]; exact hs q h1 h2⟩, ?_⟩
    unfold fX10_feed_L44_b fX0_add
    rw [if_pos (nI_lt e2 (by omega)), cbyte y (by omega), ht.1, show al (281 + 1) = 200 from rfl, show Int32.ofNat 200 = nI 200 from rfl, if_pos (nI_lt (by omega) (by omega)), ck_t (inb_nI (show A.tc + i < 200 by omega) (by decide)), lt_e, lt_e, cl_s, nI_1, sto_ne (show (281 : Nat) ≠ 281 + 1 by decide), ht.1, nI_1, ix_nI (by omega), fedT_s]
theorem rs_feed (y : Int64) (a : Int32) : RS (fun σ => fX11_feed σ y a) (gFeed y a) := by
  intro σ A h
  show ∃ σ', fX11_feed σ y a = _ ∧ _
  unfold fX11_feed gFeed
  rw [isInI σ a 1 8 1 8 rfl rfl, cl_s]
  by_cases c : 1 ≤ a ∧ a ≤ 8
  case neg => rw [if_neg c, if_neg c, if_pos rfl]; exact rbad h
  obtain ⟨n, h1, h8, rfl⟩ := of18 c
  have hc := h.tape.2.1
  rw [if_pos c, if_neg (by decide), if_pos c, h.tape.1, ix_nI (by omega), nI_add]
  by_cases e : 200 < A.tc + n
  case pos => rw [if_pos (show (200 : Int32) < nI (A.tc + n) from nI_lt (a := 200) (by omega) (by omega)), if_pos e]; exact rbad2 h
  rw [if_neg (show ¬ (200 : Int32) < nI (A.tc + n) from nI_nlt (a := 200) (by omega) (by omega)), if_neg e]
  refine loopM (fX11_feed_L43 (fun (m12 : Mem) => some ((m12 362 13), m12)) y (nI n)) (fX11_feed_L43_b (fun (m12 : Mem) => some ((m12 362 13), m12)) y (nI n)) (fun _ _ _ => rfl) n
    (fun i m => RTape m (A.tc + i) (fedT A y) ∧ (∀ q, q ≠ 362 → q ≠ 373 → m q = σ q) ∧ ∀ j, j ≠ 13 → m 362 j = σ 362 j)
    (fun r => ∃ σ', r = some (nI (A.tc + n), σ') ∧ RInv σ' (setT A (A.tc + n) (fedT A y)) ∧ Lo σ σ') ?_ ?_ 5000 0 σ (by omega) (by omega) ⟨h.tape.fed y, fun _ _ _ => rfl, fun _ _ => rfl⟩
  · rintro m rec ⟨ht, hs, ho⟩
    unfold fX11_feed_L43_b
    rw [if_neg (nI_nlt (by omega) (by omega))]
    exact ⟨m, by show some (m _ _, m) = _; rw [ht.1], h.setT (fun q _ _ h2 => hs q (by omega) h2) (fun j _ hj => ho j hj) ht, fun k hk => hs k (by omega) (by omega)⟩
  · rintro i m rec e2 ⟨ht, hs, ho⟩
    refine Or.inr ⟨_, ⟨ht.add (by omega) (by rw [fedT_s]; exact byt_lt y i), fun q h1 h2 => by rw [sto_ne h1, sto_ne h2]; exact hs q h1 h2, fun j hj => by rw [sto_nj hj, sto_ne (by decide)]; exact ho j hj⟩, ?_⟩
    unfold fX11_feed_L43_b
    rw [if_pos (nI_lt e2 (by omega)), rbyte y (by omega), ht.1, ck_t (inb_nI (show A.tc + i < 200 by omega) (by decide)), lt_e, lt_e, nI_1, sto_ne (show (362 : Nat) ≠ 373 by decide), ht.1, nI_1, ix_nI (by omega), fedT_s]
