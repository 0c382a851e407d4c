/-! ===== the law ===== -/
theorem CS.a {α : Type} {f : Mem → Option (α × Mem)} {g : Ab → α × Ab} (h : CS f g) : CSa f g := fun σ A hc _ => h σ A hc
theorem RS.a {α : Type} {f : Mem → Option (α × Mem)} {g : Ab → α × Ab} (h : RS f g) : RSa f g := fun σ A hc _ => h σ A hc
def Both (m : Mem) : Prop := ∃ A, CInv m A ∧ RInv m A ∧ AOk A
theorem op_step {α : Type} {f g : Mem → Option (α × Mem)} {γ : Ab → α × Ab} (hc : CSa f γ) (hr : RSa g γ) (hok : ∀ m A, CInv m A → AOk A → AOk (γ A).2) {m : Mem} (h : Both m) : ∃ r m1 m2, f m = some (r, m1) ∧ g m1 = some (r, m2) ∧ Both m2 := by
  obtain ⟨A, h1, h2, h3⟩ := h
  obtain ⟨m1, a1, a2, a3⟩ := hc m A h1 h3
  obtain ⟨m2, b1, b2, b3⟩ := hr m1 A (h2.congr (fun q a b => a3 q (by omega)) (fun j _ => by rw [a3 362 (by omega)])) h3
  exact ⟨_, m1, m2, a1, b1, _, a2.congr (fun q a b => b3 q a), b2, hok m A h1 h3⟩
theorem ok_feed (y : Int64) (a : Int32) (m : Mem) (A : Ab) (_ : CInv m A) (ha : AOk A) : AOk (gFeed y a A).2 := by
  unfold gFeed
  repeat' (first | exact ha | split)
theorem ok_wipe (m : Mem) (A : Ab) (_ : CInv m A) (ha : AOk A) : AOk (gWipe A).2 := by
  unfold gWipe
  repeat' (first | exact ha | split)
theorem ok_formOf (a b : Int32) (m : Mem) (A : Ab) (_ : CInv m A) (ha : AOk A) : AOk (gFormOf a b A).2 := by
  unfold gFormOf
  repeat' (first | exact ha | split)
theorem ok_named (a b c : Int32) (m : Mem) (A : Ab) (_ : CInv m A) (ha : AOk A) : AOk (gNamed a b c A).2 := by
  unfold gNamed
  repeat' (first | exact ha | split)
theorem ok_ofKind (a : Int32) (m : Mem) (A : Ab) (_ : CInv m A) (ha : AOk A) : AOk (gOfKind a A).2 := by
  unfold gOfKind
  repeat' (first | exact ha | split)
theorem ok_means (a : Int32) (m : Mem) (A : Ab) (_ : CInv m A) (ha : AOk A) : AOk (gMeans a A).2 := by
  unfold gMeans
  repeat' (first | exact ha | split)
theorem ok_fits (a : Int32) (m : Mem) (A : Ab) (_ : CInv m A) (ha : AOk A) : AOk (gFits a A).2 := by
  unfold gFits
  repeat' (first | exact ha | split)
theorem ok_over (a b : Int32) (m : Mem) (A : Ab) (_ : CInv m A) (ha : AOk A) : AOk (gOver a b A).2 := by
  unfold gOver
  repeat' (first | exact ha | split)
theorem ok_many (a : Int32) (m : Mem) (A : Ab) (_ : CInv m A) (ha : AOk A) : AOk (gMany a A).2 := by
  unfold gMany
  repeat' (first | exact ha | split)
theorem ok_covers (a b : Int32) (m : Mem) (A : Ab) (_ : CInv m A) (ha : AOk A) : AOk (gCovers a b A).2 := by
  unfold gCovers
  repeat' (first | exact ha | split)
theorem ok_next (a b : Int32) (m : Mem) (A : Ab) (_ : CInv m A) (ha : AOk A) : AOk (gNext a b A).2 := by
  unfold gNext
  repeat' (first | exact ha | split)
theorem ok_clash (a b : Int32) (m : Mem) (A : Ab) (_ : CInv m A) (ha : AOk A) : AOk (gClash a b A).2 := by
  unfold gClash
  repeat' (first | exact ha | split)
theorem ok_odd (a : Int32) (m : Mem) (A : Ab) (_ : CInv m A) (ha : AOk A) : AOk (gOdd a A).2 := by
  unfold gOdd
  repeat' (first | exact ha | split)
theorem ok_greedy (a b : Int32) (m : Mem) (A : Ab) (_ : CInv m A) (ha : AOk A) : AOk (gGreedy a b A).2 := by
  unfold gGreedy
  repeat' (first | exact ha | split)
theorem ok_least (a b : Int32) (m : Mem) (A : Ab) (_ : CInv m A) (ha : AOk A) : AOk (gLeast a b A).2 := by
  unfold gLeast
  repeat' (first | exact ha | split)
theorem ok_leaf (a b : Int32) (m : Mem) (A : Ab) (_ : CInv m A) (ha : AOk A) : AOk (gLeaf a b A).2 := by
  unfold gLeaf
  repeat' (first | exact ha | split)
theorem ok_field (a b c : Int32) (m : Mem) (A : Ab) (_ : CInv m A) (ha : AOk A) : AOk (gField a b c A).2 := by
  unfold gField
  repeat' (first | exact ha | split)
theorem ok_taken (a b c : Int32) (m : Mem) (A : Ab) (_ : CInv m A) (ha : AOk A) : AOk (gTaken a b c A).2 := by
  unfold gTaken
  repeat' (first | exact ha | split)
theorem ok_laid (a b c d : Int32) (m : Mem) (A : Ab) (_ : CInv m A) (ha : AOk A) : AOk (gLaid a b c d A).2 := by
  unfold gLaid
  repeat' (first | exact ha | split)
theorem ok_hold (a b : Int32) (m : Mem) (A : Ab) (_ : CInv m A) (ha : AOk A) : AOk (gHold a b A).2 := by
  unfold gHold
  repeat' (first | exact ha | split)
theorem ok_make (a : Int32) (m : Mem) (A : Ab) (_ : CInv m A) (ha : AOk A) : AOk (gMake a A).2 := by
  unfold gMake
  repeat' (first | exact ha | split)
theorem ok_write (a : Int32) (m : Mem) (A : Ab) (_ : CInv m A) (ha : AOk A) : AOk (gWrite a A).2 := by
  unfold gWrite
  repeat' (first | exact ha | split)
theorem ok_written (a : Int32) (m : Mem) (A : Ab) (_ : CInv m A) (ha : AOk A) : AOk (gWritten a A).2 := by
  unfold gWritten
  repeat' (first | exact ha | split)
theorem ok_read (m : Mem) (A : Ab) (_ : CInv m A) (ha : AOk A) : AOk (gRead A).2 := by
  unfold gRead
  repeat' (first | exact ha | split)
theorem ok_put (a b : Int32) (m : Mem) (A : Ab) (_ : CInv m A) (ha : AOk A) : AOk (gPut a b A).2 := by
  unfold gPut
  repeat' (first | exact ha | split)
theorem ok_cell (a : Int32) (m : Mem) (A : Ab) (_ : CInv m A) (ha : AOk A) : AOk (gCell a A).2 := by
  unfold gCell
  repeat' (first | exact ha | split)
theorem ok_copy (a b c : Int32) (m : Mem) (A : Ab) (_ : CInv m A) (ha : AOk A) : AOk (gCopy a b c A).2 := by
  unfold gCopy
  repeat' (first | exact ha | split)
theorem ok_holders (a : Int32) (m : Mem) (A : Ab) (_ : CInv m A) (ha : AOk A) : AOk (gHolders a A).2 := by
  unfold gHolders
  repeat' (first | exact ha | split)
theorem ok_walk (a b c : Int32) (m : Mem) (A : Ab) (_ : CInv m A) (ha : AOk A) : AOk (gWalk a b c A).2 := by
  unfold gWalk
  repeat' (first | exact ha | split)
theorem ok_halts (a : Int32) (m : Mem) (A : Ab) (_ : CInv m A) (ha : AOk A) : AOk (gHalts a A).2 := by
  unfold gHalts
  repeat' (first | exact ha | split)
theorem ok_run (a b : Int32) (m : Mem) (A : Ab) (_ : CInv m A) (ha : AOk A) : AOk (gRun a b A).2 := by
  unfold gRun
  repeat' (first | exact ha | split)
theorem ok_met (a : Int32) (m : Mem) (A : Ab) (_ : CInv m A) (ha : AOk A) : AOk (gMet a A).2 := by
  unfold gMet
  repeat' (first | exact ha | split)
theorem ok_order (a : Int32) (m : Mem) (A : Ab) (_ : CInv m A) (ha : AOk A) : AOk (gOrder a A).2 := by
  unfold gOrder
  repeat' (first | exact ha | split)
theorem ok_costs (a : Int32) (m : Mem) (A : Ab) (_ : CInv m A) (ha : AOk A) : AOk (gCosts a A).2 := by
  unfold gCosts
  repeat' (first | exact ha | split)
theorem ok_undo (m : Mem) (A : Ab) (_ : CInv m A) (ha : AOk A) : AOk (gUndo A).2 := by
  unfold gUndo
  repeat' (first | exact ha | split)
theorem ok_image (m : Mem) (A : Ab) (_ : CInv m A) (ha : AOk A) : AOk (gImage A).2 := by
  unfold gImage
  repeat' (first | exact ha | split)
theorem ok_count (a : Int32) (m : Mem) (A : Ab) (_ : CInv m A) (ha : AOk A) : AOk (gCount a A).2 := by
  unfold gCount
  repeat' (first | exact ha | split)
theorem ok_refused (a : Int32) (m : Mem) (A : Ab) (_ : CInv m A) (ha : AOk A) : AOk (gRefused a A).2 := by
  unfold gRefused
  repeat' (first | exact ha | split)
theorem ok_back (m : Mem) (A : Ab) (h : CInv m A) (ha : AOk A) : AOk (gBack A).2 := by
  have hk := h.kept
  unfold gBack
  revert hk
  cases hkp : A.kept with
  | none => intro _; exact ha
  | some p =>
    rintro ⟨_, hcn, _⟩
    intro i hi
    have hi' : i < p.1 := hi
    exact ha i (by omega)
theorem ok_text (m : Mem) (A : Ab) (h : CInv m A) (ha : AOk A) : AOk (gText A).2 := by
  have ht : Tok (A.tc, A.tp) := ⟨h.tape.2.1, fun i hi => (h.tape.2.2 i hi).2⟩
  unfold gText
  cases hx : txP (A.tc, A.tp) 13 A.n 0 A.F with
  | inl e => exact ha
  | inr x => exact (txP_r ht h.mean.1.2.1 ha (fun i hi => (h.mean.1.2.2 i hi).2) hx).2.2.1
theorem lawStep {L : Nat} {xs : Nat → Int32} (hL : L ≤ 2560) {k : Nat} (hk : 5 * k + 5 ≤ L) {m : Mem} (h : Both m) (rec : Mem → Int32 → Option (Int32 × Mem)) : ∃ m', Both m' ∧ fL_law_L18_b L xs rec m (nI (5 * k)) = rec m' (nI (5 * k) + 5) := by
  have i0 := inb_nI (show 5 * k < L by omega) (show L < 2 ^ 31 by omega)
  have i1 : inb (nI (5 * k) + 1) L = true := by rw [nI_1]; exact inb_nI (by omega) (by omega)
  have i2 : inb (nI (5 * k) + 2) L = true := by rw [show nI (5 * k) + 2 = nI (5 * k + 2) from nI_add _ 2]; exact inb_nI (by omega) (by omega)
  have i3 : inb (nI (5 * k) + 3) L = true := by rw [show nI (5 * k) + 3 = nI (5 * k + 3) from nI_add _ 3]; exact inb_nI (by omega) (by omega)
  have i4 : inb (nI (5 * k) + 4) L = true := by rw [show nI (5 * k) + 4 = nI (5 * k + 4) from nI_add _ 4]; exact inb_nI (by omega) (by omega)
  have hend : ¬ Int32.ofNat L - 5 < nI (5 * k) := by
    rw [show Int32.ofNat L - 5 = nI (L - 5) from pk_sub (b := 5) (by omega)]
    exact nI_nlt (by omega) (by omega)
  unfold fL_law_L18_b
  rw [if_neg hend, ck_t i0, lt_e]
  generalize xs (ix (nI (5 * k))) &&& 63 = o
  by_cases e0 : o = 0
  · rw [if_pos e0]
    obtain ⟨r, m1, m2, p1, p2, p3⟩ := op_step (cs_feed ((((xs (ix (nI (5 * k) + 1))).toInt64) <<< (((32 : Int32)).toInt64 &&& 63)) ||| (((xs (ix (nI (5 * k) + 2))).toInt64) &&& (4294967295 : Int64))) (xs (ix (nI (5 * k) + 3)))).a (rs_feed ((((xs (ix (nI (5 * k) + 1))).toInt64) <<< (((32 : Int32)).toInt64 &&& 63)) ||| (((xs (ix (nI (5 * k) + 2))).toInt64) &&& (4294967295 : Int64))) (xs (ix (nI (5 * k) + 3)))).a (ok_feed ((((xs (ix (nI (5 * k) + 1))).toInt64) <<< (((32 : Int32)).toInt64 &&& 63)) ||| (((xs (ix (nI (5 * k) + 2))).toInt64) &&& (4294967295 : Int64))) (xs (ix (nI (5 * k) + 3)))) h
    replace p1 := p1; replace p2 := p2
    rw [ck_t i1, ck_t i2, ck_t i3, p1, cl_s, ck_t i1, ck_t i2, ck_t i3, p2, cl_s, if_pos rfl]
    exact ⟨m2, p3, rfl⟩
  rw [if_neg e0]
  by_cases e1 : o = 1
  · rw [if_pos e1]
    obtain ⟨r, m1, m2, p1, p2, p3⟩ := op_step (cs_wipe).a (rs_wipe).a (ok_wipe) h
    replace p1 := p1; replace p2 := p2
    rw [p1, cl_s, p2, cl_s, if_pos rfl]
    exact ⟨m2, p3, rfl⟩
  rw [if_neg e1]
  by_cases e2 : o = 2
  · rw [if_pos e2]
    obtain ⟨r, m1, m2, p1, p2, p3⟩ := op_step (cs_text) (rs_text) (ok_text) h
    replace p1 := p1; replace p2 := p2
    rw [p1, cl_s, p2, cl_s, if_pos rfl]
    exact ⟨m2, p3, rfl⟩
  rw [if_neg e2]
  by_cases e3 : o = 3
  · rw [if_pos e3]
    obtain ⟨r, m1, m2, p1, p2, p3⟩ := op_step (cs_formOf (xs (ix (nI (5 * k) + 1))) (xs (ix (nI (5 * k) + 2)))) (rs_formOf (xs (ix (nI (5 * k) + 1))) (xs (ix (nI (5 * k) + 2)))) (ok_formOf (xs (ix (nI (5 * k) + 1))) (xs (ix (nI (5 * k) + 2)))) h
    replace p1 := p1; replace p2 := p2
    rw [ck_t i1, ck_t i2, p1, cl_s, ck_t i1, ck_t i2, p2, cl_s, if_pos rfl]
    exact ⟨m2, p3, rfl⟩
  rw [if_neg e3]
  by_cases e4 : o = 4
  · rw [if_pos e4]
    obtain ⟨r, m1, m2, p1, p2, p3⟩ := op_step (cs_named (xs (ix (nI (5 * k) + 1))) (xs (ix (nI (5 * k) + 2))) (xs (ix (nI (5 * k) + 3)))) (rs_named (xs (ix (nI (5 * k) + 1))) (xs (ix (nI (5 * k) + 2))) (xs (ix (nI (5 * k) + 3)))) (ok_named (xs (ix (nI (5 * k) + 1))) (xs (ix (nI (5 * k) + 2))) (xs (ix (nI (5 * k) + 3)))) h
    replace p1 := p1; replace p2 := p2
    rw [ck_t i1, ck_t i2, ck_t i3, p1, cl_s, ck_t i1, ck_t i2, ck_t i3, p2, cl_s, if_pos rfl]
    exact ⟨m2, p3, rfl⟩
  rw [if_neg e4]
  by_cases e5 : o = 5
  · rw [if_pos e5]
    obtain ⟨r, m1, m2, p1, p2, p3⟩ := op_step (cs_ofKind (xs (ix (nI (5 * k) + 1)))).a (rs_ofKind (xs (ix (nI (5 * k) + 1)))).a (ok_ofKind (xs (ix (nI (5 * k) + 1)))) h
    replace p1 := p1; replace p2 := p2
    rw [ck_t i1, p1, cl_s, ck_t i1, p2, cl_s, if_pos rfl]
    exact ⟨m2, p3, rfl⟩
  rw [if_neg e5]
  by_cases e6 : o = 6
  · rw [if_pos e6]
    obtain ⟨r, m1, m2, p1, p2, p3⟩ := op_step (cs_means (xs (ix (nI (5 * k) + 1)))).a (rs_means (xs (ix (nI (5 * k) + 1)))).a (ok_means (xs (ix (nI (5 * k) + 1)))) h
    replace p1 := p1; replace p2 := p2
    rw [ck_t i1, p1, cl_s, ck_t i1, p2, cl_s, if_pos rfl]
    exact ⟨m2, p3, rfl⟩
  rw [if_neg e6]
  by_cases e7 : o = 7
  · rw [if_pos e7]
    obtain ⟨r, m1, m2, p1, p2, p3⟩ := op_step (cs_fits (xs (ix (nI (5 * k) + 1)))).a (rs_fits (xs (ix (nI (5 * k) + 1)))).a (ok_fits (xs (ix (nI (5 * k) + 1)))) h
    replace p1 := p1; replace p2 := p2
    rw [ck_t i1, p1, cl_s, ck_t i1, p2, cl_s, if_pos rfl]
    exact ⟨m2, p3, rfl⟩
  rw [if_neg e7]
  by_cases e8 : o = 8
  · rw [if_pos e8]
    obtain ⟨r, m1, m2, p1, p2, p3⟩ := op_step (cs_over (xs (ix (nI (5 * k) + 1))) (xs (ix (nI (5 * k) + 2)))).a (rs_over (xs (ix (nI (5 * k) + 1))) (xs (ix (nI (5 * k) + 2)))).a (ok_over (xs (ix (nI (5 * k) + 1))) (xs (ix (nI (5 * k) + 2)))) h
    replace p1 := p1; replace p2 := p2
    rw [ck_t i1, ck_t i2, p1, cl_s, ck_t i1, ck_t i2, p2, cl_s, if_pos rfl]
    exact ⟨m2, p3, rfl⟩
  rw [if_neg e8]
  by_cases e9 : o = 9
  · rw [if_pos e9]
    obtain ⟨r, m1, m2, p1, p2, p3⟩ := op_step (cs_many (xs (ix (nI (5 * k) + 1)))).a (rs_many (xs (ix (nI (5 * k) + 1)))).a (ok_many (xs (ix (nI (5 * k) + 1)))) h
    replace p1 := p1; replace p2 := p2
    rw [ck_t i1, p1, cl_s, ck_t i1, p2, cl_s, if_pos rfl]
    exact ⟨m2, p3, rfl⟩
  rw [if_neg e9]
  by_cases e10 : o = 10
  · rw [if_pos e10]
    obtain ⟨r, m1, m2, p1, p2, p3⟩ := op_step (cs_covers (xs (ix (nI (5 * k) + 1))) (xs (ix (nI (5 * k) + 2)))).a (rs_covers (xs (ix (nI (5 * k) + 1))) (xs (ix (nI (5 * k) + 2)))).a (ok_covers (xs (ix (nI (5 * k) + 1))) (xs (ix (nI (5 * k) + 2)))) h
    replace p1 := p1; replace p2 := p2
    rw [ck_t i1, ck_t i2, p1, cl_s, ck_t i1, ck_t i2, p2, cl_s, if_pos ((lg_cmp_eq r r).mpr rfl)]
    exact ⟨m2, p3, rfl⟩
  rw [if_neg e10]
  by_cases e11 : o = 11
  · rw [if_pos e11]
    obtain ⟨r, m1, m2, p1, p2, p3⟩ := op_step (cs_next (xs (ix (nI (5 * k) + 1))) (xs (ix (nI (5 * k) + 2)))).a (rs_next (xs (ix (nI (5 * k) + 1))) (xs (ix (nI (5 * k) + 2)))).a (ok_next (xs (ix (nI (5 * k) + 1))) (xs (ix (nI (5 * k) + 2)))) h
    replace p1 := p1; replace p2 := p2
    rw [ck_t i1, ck_t i2, p1, cl_s, ck_t i1, ck_t i2, p2, cl_s, if_pos rfl]
    exact ⟨m2, p3, rfl⟩
  rw [if_neg e11]
  by_cases e12 : o = 12
  · rw [if_pos e12]
    obtain ⟨r, m1, m2, p1, p2, p3⟩ := op_step (cs_clash (xs (ix (nI (5 * k) + 1))) (xs (ix (nI (5 * k) + 2)))).a (rs_clash (xs (ix (nI (5 * k) + 1))) (xs (ix (nI (5 * k) + 2)))).a (ok_clash (xs (ix (nI (5 * k) + 1))) (xs (ix (nI (5 * k) + 2)))) h
    replace p1 := p1; replace p2 := p2
    rw [ck_t i1, ck_t i2, p1, cl_s, ck_t i1, ck_t i2, p2, cl_s, if_pos rfl]
    exact ⟨m2, p3, rfl⟩
  rw [if_neg e12]
  by_cases e13 : o = 13
  · rw [if_pos e13]
    obtain ⟨r, m1, m2, p1, p2, p3⟩ := op_step (cs_odd (xs (ix (nI (5 * k) + 1)))).a (rs_odd (xs (ix (nI (5 * k) + 1)))).a (ok_odd (xs (ix (nI (5 * k) + 1)))) h
    replace p1 := p1; replace p2 := p2
    rw [ck_t i1, p1, cl_s, ck_t i1, p2, cl_s, if_pos rfl]
    exact ⟨m2, p3, rfl⟩
  rw [if_neg e13]
  by_cases e14 : o = 14
  · rw [if_pos e14]
    obtain ⟨r, m1, m2, p1, p2, p3⟩ := op_step (cs_greedy (xs (ix (nI (5 * k) + 1))) (xs (ix (nI (5 * k) + 2)))).a (rs_greedy (xs (ix (nI (5 * k) + 1))) (xs (ix (nI (5 * k) + 2)))).a (ok_greedy (xs (ix (nI (5 * k) + 1))) (xs (ix (nI (5 * k) + 2)))) h
    replace p1 := p1; replace p2 := p2
    rw [ck_t i1, ck_t i2, p1, cl_s, ck_t i1, ck_t i2, p2, cl_s, if_pos rfl]
    exact ⟨m2, p3, rfl⟩
  rw [if_neg e14]
  by_cases e15 : o = 15
  · rw [if_pos e15]
    obtain ⟨r, m1, m2, p1, p2, p3⟩ := op_step (cs_least (xs (ix (nI (5 * k) + 1))) (xs (ix (nI (5 * k) + 2)))).a (rs_least (xs (ix (nI (5 * k) + 1))) (xs (ix (nI (5 * k) + 2)))).a (ok_least (xs (ix (nI (5 * k) + 1))) (xs (ix (nI (5 * k) + 2)))) h
    replace p1 := p1; replace p2 := p2
    rw [ck_t i1, ck_t i2, p1, cl_s, ck_t i1, ck_t i2, p2, cl_s, if_pos rfl]
    exact ⟨m2, p3, rfl⟩
  rw [if_neg e15]
  by_cases e16 : o = 16
  · rw [if_pos e16]
    obtain ⟨r, m1, m2, p1, p2, p3⟩ := op_step (cs_leaf (xs (ix (nI (5 * k) + 1))) (xs (ix (nI (5 * k) + 2)))).a (rs_leaf (xs (ix (nI (5 * k) + 1))) (xs (ix (nI (5 * k) + 2)))).a (ok_leaf (xs (ix (nI (5 * k) + 1))) (xs (ix (nI (5 * k) + 2)))) h
    replace p1 := p1; replace p2 := p2
    rw [ck_t i1, ck_t i2, p1, cl_s, ck_t i1, ck_t i2, p2, cl_s, if_pos rfl]
    exact ⟨m2, p3, rfl⟩
  rw [if_neg e16]
  by_cases e17 : o = 17
  · rw [if_pos e17]
    obtain ⟨r, m1, m2, p1, p2, p3⟩ := op_step (cs_field (xs (ix (nI (5 * k) + 1))) (xs (ix (nI (5 * k) + 2))) (xs (ix (nI (5 * k) + 3)))).a (rs_field (xs (ix (nI (5 * k) + 1))) (xs (ix (nI (5 * k) + 2))) (xs (ix (nI (5 * k) + 3)))).a (ok_field (xs (ix (nI (5 * k) + 1))) (xs (ix (nI (5 * k) + 2))) (xs (ix (nI (5 * k) + 3)))) h
    replace p1 := p1; replace p2 := p2
    rw [ck_t i1, ck_t i2, ck_t i3, p1, cl_s, ck_t i1, ck_t i2, ck_t i3, p2, cl_s, if_pos rfl]
    exact ⟨m2, p3, rfl⟩
  rw [if_neg e17]
  by_cases e18 : o = 18
  · rw [if_pos e18]
    obtain ⟨r, m1, m2, p1, p2, p3⟩ := op_step (cs_taken (xs (ix (nI (5 * k) + 1))) (xs (ix (nI (5 * k) + 2))) (xs (ix (nI (5 * k) + 3)))).a (rs_taken (xs (ix (nI (5 * k) + 1))) (xs (ix (nI (5 * k) + 2))) (xs (ix (nI (5 * k) + 3)))).a (ok_taken (xs (ix (nI (5 * k) + 1))) (xs (ix (nI (5 * k) + 2))) (xs (ix (nI (5 * k) + 3)))) h
    replace p1 := p1; replace p2 := p2
    rw [ck_t i1, ck_t i2, ck_t i3, p1, cl_s, ck_t i1, ck_t i2, ck_t i3, p2, cl_s, if_pos rfl]
    exact ⟨m2, p3, rfl⟩
  rw [if_neg e18]
  by_cases e19 : o = 19
  · rw [if_pos e19]
    obtain ⟨r, m1, m2, p1, p2, p3⟩ := op_step (cs_laid (xs (ix (nI (5 * k) + 1))) (xs (ix (nI (5 * k) + 2))) (xs (ix (nI (5 * k) + 3))) (xs (ix (nI (5 * k) + 4)))).a (rs_laid (xs (ix (nI (5 * k) + 1))) (xs (ix (nI (5 * k) + 2))) (xs (ix (nI (5 * k) + 3))) (xs (ix (nI (5 * k) + 4)))).a (ok_laid (xs (ix (nI (5 * k) + 1))) (xs (ix (nI (5 * k) + 2))) (xs (ix (nI (5 * k) + 3))) (xs (ix (nI (5 * k) + 4)))) h
    replace p1 := p1; replace p2 := p2
    rw [ck_t i1, ck_t i2, ck_t i3, ck_t i4, p1, cl_s, ck_t i1, ck_t i2, ck_t i3, ck_t i4, p2, cl_s, if_pos rfl]
    exact ⟨m2, p3, rfl⟩
  rw [if_neg e19]
  by_cases e20 : o = 20
  · rw [if_pos e20]
    obtain ⟨r, m1, m2, p1, p2, p3⟩ := op_step (cs_hold (xs (ix (nI (5 * k) + 1))) (xs (ix (nI (5 * k) + 2)))).a (rs_hold (xs (ix (nI (5 * k) + 1))) (xs (ix (nI (5 * k) + 2)))).a (ok_hold (xs (ix (nI (5 * k) + 1))) (xs (ix (nI (5 * k) + 2)))) h
    replace p1 := p1; replace p2 := p2
    rw [ck_t i1, ck_t i2, p1, cl_s, ck_t i1, ck_t i2, p2, cl_s, if_pos rfl]
    exact ⟨m2, p3, rfl⟩
  rw [if_neg e20]
  by_cases e21 : o = 21
  · rw [if_pos e21]
    obtain ⟨r, m1, m2, p1, p2, p3⟩ := op_step (cs_make (xs (ix (nI (5 * k) + 1)))).a (rs_make (xs (ix (nI (5 * k) + 1)))).a (ok_make (xs (ix (nI (5 * k) + 1)))) h
    replace p1 := p1; replace p2 := p2
    rw [ck_t i1, p1, cl_s, ck_t i1, p2, cl_s, if_pos rfl]
    exact ⟨m2, p3, rfl⟩
  rw [if_neg e21]
  by_cases e22 : o = 22
  · rw [if_pos e22]
    obtain ⟨r, m1, m2, p1, p2, p3⟩ := op_step (cs_write (xs (ix (nI (5 * k) + 1)))) (rs_write (xs (ix (nI (5 * k) + 1)))) (ok_write (xs (ix (nI (5 * k) + 1)))) h
    replace p1 := p1; replace p2 := p2
    rw [ck_t i1, p1, cl_s, ck_t i1, p2, cl_s, if_pos rfl]
    exact ⟨m2, p3, rfl⟩
  rw [if_neg e22]
  by_cases e23 : o = 23
  · rw [if_pos e23]
    obtain ⟨r, m1, m2, p1, p2, p3⟩ := op_step (cs_written (xs (ix (nI (5 * k) + 1)))).a (rs_written (xs (ix (nI (5 * k) + 1)))).a (ok_written (xs (ix (nI (5 * k) + 1)))) h
    replace p1 := p1; replace p2 := p2
    rw [ck_t i1, p1, cl_s, ck_t i1, p2, cl_s, if_pos rfl]
    exact ⟨m2, p3, rfl⟩
  rw [if_neg e23]
  by_cases e24 : o = 24
  · rw [if_pos e24]
    obtain ⟨r, m1, m2, p1, p2, p3⟩ := op_step (cs_read) (rs_read) (ok_read) h
    replace p1 := p1; replace p2 := p2
    rw [p1, cl_s, p2, cl_s, if_pos rfl]
    exact ⟨m2, p3, rfl⟩
  rw [if_neg e24]
  by_cases e25 : o = 25
  · rw [if_pos e25]
    obtain ⟨r, m1, m2, p1, p2, p3⟩ := op_step (cs_put (xs (ix (nI (5 * k) + 1))) (xs (ix (nI (5 * k) + 2)))).a (rs_put (xs (ix (nI (5 * k) + 1))) (xs (ix (nI (5 * k) + 2)))).a (ok_put (xs (ix (nI (5 * k) + 1))) (xs (ix (nI (5 * k) + 2)))) h
    replace p1 := p1; replace p2 := p2
    rw [ck_t i1, ck_t i2, p1, cl_s, ck_t i1, ck_t i2, p2, cl_s, if_pos rfl]
    exact ⟨m2, p3, rfl⟩
  rw [if_neg e25]
  by_cases e26 : o = 26
  · rw [if_pos e26]
    obtain ⟨r, m1, m2, p1, p2, p3⟩ := op_step (cs_cell (xs (ix (nI (5 * k) + 1)))).a (rs_cell (xs (ix (nI (5 * k) + 1)))).a (ok_cell (xs (ix (nI (5 * k) + 1)))) h
    replace p1 := p1; replace p2 := p2
    rw [ck_t i1, p1, cl_s, ck_t i1, p2, cl_s, if_pos rfl]
    exact ⟨m2, p3, rfl⟩
  rw [if_neg e26]
  by_cases e27 : o = 27
  · rw [if_pos e27]
    obtain ⟨r, m1, m2, p1, p2, p3⟩ := op_step (cs_copy (xs (ix (nI (5 * k) + 1))) (xs (ix (nI (5 * k) + 2))) (xs (ix (nI (5 * k) + 3)))).a (rs_copy (xs (ix (nI (5 * k) + 1))) (xs (ix (nI (5 * k) + 2))) (xs (ix (nI (5 * k) + 3)))).a (ok_copy (xs (ix (nI (5 * k) + 1))) (xs (ix (nI (5 * k) + 2))) (xs (ix (nI (5 * k) + 3)))) h
    replace p1 := p1; replace p2 := p2
    rw [ck_t i1, ck_t i2, ck_t i3, p1, cl_s, ck_t i1, ck_t i2, ck_t i3, p2, cl_s, if_pos rfl]
    exact ⟨m2, p3, rfl⟩
  rw [if_neg e27]
  by_cases e28 : o = 28
  · rw [if_pos e28]
    obtain ⟨r, m1, m2, p1, p2, p3⟩ := op_step (cs_holders (xs (ix (nI (5 * k) + 1)))).a (rs_holders (xs (ix (nI (5 * k) + 1)))).a (ok_holders (xs (ix (nI (5 * k) + 1)))) h
    replace p1 := p1; replace p2 := p2
    rw [ck_t i1, p1, cl_s, ck_t i1, p2, cl_s, if_pos rfl]
    exact ⟨m2, p3, rfl⟩
  rw [if_neg e28]
  by_cases e29 : o = 29
  · rw [if_pos e29]
    obtain ⟨r, m1, m2, p1, p2, p3⟩ := op_step (cs_walk (xs (ix (nI (5 * k) + 1))) (xs (ix (nI (5 * k) + 2))) (xs (ix (nI (5 * k) + 3)))).a (rs_walk (xs (ix (nI (5 * k) + 1))) (xs (ix (nI (5 * k) + 2))) (xs (ix (nI (5 * k) + 3)))).a (ok_walk (xs (ix (nI (5 * k) + 1))) (xs (ix (nI (5 * k) + 2))) (xs (ix (nI (5 * k) + 3)))) h
    replace p1 := p1; replace p2 := p2
    rw [ck_t i1, ck_t i2, ck_t i3, p1, cl_s, ck_t i1, ck_t i2, ck_t i3, p2, cl_s, if_pos rfl]
    exact ⟨m2, p3, rfl⟩
  rw [if_neg e29]
  by_cases e30 : o = 30
  · rw [if_pos e30]
    obtain ⟨r, m1, m2, p1, p2, p3⟩ := op_step (cs_halts (xs (ix (nI (5 * k) + 1)))).a (rs_halts (xs (ix (nI (5 * k) + 1)))).a (ok_halts (xs (ix (nI (5 * k) + 1)))) h
    replace p1 := p1; replace p2 := p2
    rw [ck_t i1, p1, cl_s, ck_t i1, p2, cl_s, if_pos rfl]
    exact ⟨m2, p3, rfl⟩
  rw [if_neg e30]
  by_cases e31 : o = 31
  · rw [if_pos e31]
    obtain ⟨r, m1, m2, p1, p2, p3⟩ := op_step (cs_run (xs (ix (nI (5 * k) + 1))) (xs (ix (nI (5 * k) + 2)))).a (rs_run (xs (ix (nI (5 * k) + 1))) (xs (ix (nI (5 * k) + 2)))).a (ok_run (xs (ix (nI (5 * k) + 1))) (xs (ix (nI (5 * k) + 2)))) h
    replace p1 := p1; replace p2 := p2
    rw [ck_t i1, ck_t i2, p1, cl_s, ck_t i1, ck_t i2, p2, cl_s, if_pos rfl]
    exact ⟨m2, p3, rfl⟩
  rw [if_neg e31]
  by_cases e32 : o = 32
  · rw [if_pos e32]
    obtain ⟨r, m1, m2, p1, p2, p3⟩ := op_step (cs_met (xs (ix (nI (5 * k) + 1)))).a (rs_met (xs (ix (nI (5 * k) + 1)))).a (ok_met (xs (ix (nI (5 * k) + 1)))) h
    replace p1 := p1; replace p2 := p2
    rw [ck_t i1, p1, cl_s, ck_t i1, p2, cl_s, if_pos rfl]
    exact ⟨m2, p3, rfl⟩
  rw [if_neg e32]
  by_cases e33 : o = 33
  · rw [if_pos e33]
    obtain ⟨r, m1, m2, p1, p2, p3⟩ := op_step (cs_order (xs (ix (nI (5 * k) + 1)))).a (rs_order (xs (ix (nI (5 * k) + 1)))).a (ok_order (xs (ix (nI (5 * k) + 1)))) h
    replace p1 := p1; replace p2 := p2
    rw [ck_t i1, p1, cl_s, ck_t i1, p2, cl_s, if_pos rfl]
    exact ⟨m2, p3, rfl⟩
  rw [if_neg e33]
  by_cases e34 : o = 34
  · rw [if_pos e34]
    obtain ⟨r, m1, m2, p1, p2, p3⟩ := op_step (cs_costs (xs (ix (nI (5 * k) + 1)))).a (rs_costs (xs (ix (nI (5 * k) + 1)))).a (ok_costs (xs (ix (nI (5 * k) + 1)))) h
    replace p1 := p1; replace p2 := p2
    rw [ck_t i1, p1, cl_s, ck_t i1, p2, cl_s, if_pos rfl]
    exact ⟨m2, p3, rfl⟩
  rw [if_neg e34]
  by_cases e35 : o = 35
  · rw [if_pos e35]
    obtain ⟨r, m1, m2, p1, p2, p3⟩ := op_step (cs_undo).a (rs_undo).a (ok_undo) h
    replace p1 := p1; replace p2 := p2
    rw [p1, cl_s, p2, cl_s, if_pos rfl]
    exact ⟨m2, p3, rfl⟩
  rw [if_neg e35]
  by_cases e36 : o = 36
  · rw [if_pos e36]
    obtain ⟨r, m1, m2, p1, p2, p3⟩ := op_step (cs_image).a (rs_image).a (ok_image) h
    replace p1 := p1; replace p2 := p2
    rw [p1, cl_s, p2, cl_s, if_pos rfl]
    exact ⟨m2, p3, rfl⟩
  rw [if_neg e36]
  by_cases e37 : o = 37
  · rw [if_pos e37]
    obtain ⟨r, m1, m2, p1, p2, p3⟩ := op_step (cs_back).a (rs_back).a (ok_back) h
    replace p1 := p1; replace p2 := p2
    rw [p1, cl_s, p2, cl_s, if_pos rfl]
    exact ⟨m2, p3, rfl⟩
  rw [if_neg e37]
  by_cases e38 : o = 38
  · rw [if_pos e38]
    obtain ⟨r, m1, m2, p1, p2, p3⟩ := op_step (cs_count (xs (ix (nI (5 * k) + 1)))).a (rs_count (xs (ix (nI (5 * k) + 1)))).a (ok_count (xs (ix (nI (5 * k) + 1)))) h
    replace p1 := p1; replace p2 := p2
    rw [ck_t i1, p1, cl_s, ck_t i1, p2, cl_s, if_pos rfl]
    exact ⟨m2, p3, rfl⟩
  rw [if_neg e38]
  by_cases e39 : o = 39
  · rw [if_pos e39]
    obtain ⟨r, m1, m2, p1, p2, p3⟩ := op_step (cs_refused (xs (ix (nI (5 * k) + 1)))).a (rs_refused (xs (ix (nI (5 * k) + 1)))).a (ok_refused (xs (ix (nI (5 * k) + 1)))) h
    replace p1 := p1; replace p2 := p2
    rw [ck_t i1, p1, cl_s, ck_t i1, p2, cl_s, if_pos rfl]
    exact ⟨m2, p3, rfl⟩
  rw [if_neg e39]
  exact ⟨m, h, rfl⟩
theorem law_ok {L : Nat} {xs : Nat → Int32} (hL : L ≤ 2560) {m : Mem} (h : Both m) : ∃ σ', fL_law_L18 L xs 513 m 0 = some (1, σ') := by
  refine loopMc (fun k => nI (5 * k)) (fL_law_L18 L xs) (fL_law_L18_b L xs) (fun _ _ _ => rfl) (L / 5) (fun _ s => Both s) (fun r => ∃ σ', r = some (1, σ')) ?_ ?_ 513 0 m (by omega) (by omega) h
  · intro s rec hs
    unfold fL_law_L18_b
    have hend : Int32.ofNat L - 5 < nI (5 * (L / 5)) := by
      by_cases c : L < 5
      · have : L = 0 ∨ L = 1 ∨ L = 2 ∨ L = 3 ∨ L = 4 := by omega
        rcases this with e | e | e | e | e <;> subst e <;> decide
      · rw [show Int32.ofNat L - 5 = nI (L - 5) from pk_sub (b := 5) (by omega)]
        exact nI_lt (by omega) (by omega)
    rw [if_pos hend]
    exact ⟨s, rfl⟩
  · intro k s rec hk hs
    right
    obtain ⟨m', a, b⟩ := lawStep (xs := xs) hL (show 5 * k + 5 ≤ L by omega) hs rec
    exact ⟨m', a, by rw [b, show nI (5 * k) + 5 = nI (5 * (k + 1)) from nI_add _ 5]⟩
