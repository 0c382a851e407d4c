/-! ===== what both sides hold ===== -/
abbrev Dd : Type := (Nat → Int32) × (Nat → Nat) × Nat × (Nat → Int32)
abbrev Dd.hand (d : Dd) : Nat → Int32 := d.1
abbrev Dd.cel (d : Dd) : Nat → Nat := d.2.1
abbrev Dd.mc (d : Dd) : Nat := d.2.2.1
abbrev Dd.met (d : Dd) : Nat → Int32 := d.2.2.2
abbrev Ab : Type := Nat × (Nat → Fm) × Nat × (Nat → Nat) × Nat × (Nat → Int32) × Dd × Nat × (Nat → Dd) × Option (Nat × Dd) × (Nat → Int32)
abbrev Ab.n (A : Ab) : Nat := A.1
abbrev Ab.F (A : Ab) : Nat → Fm := A.2.1
abbrev Ab.tc (A : Ab) : Nat := A.2.2.1
abbrev Ab.tp (A : Ab) : Nat → Nat := A.2.2.2.1
abbrev Ab.lc (A : Ab) : Nat := A.2.2.2.2.1
abbrev Ab.ln (A : Ab) : Nat → Int32 := A.2.2.2.2.2.1
abbrev Ab.d (A : Ab) : Dd := A.2.2.2.2.2.2.1
abbrev Ab.pc (A : Ab) : Nat := A.2.2.2.2.2.2.2.1
abbrev Ab.past (A : Ab) : Nat → Dd := A.2.2.2.2.2.2.2.2.1
abbrev Ab.kept (A : Ab) : Option (Nat × Dd) := A.2.2.2.2.2.2.2.2.2.1
abbrev Ab.rf (A : Ab) : Nat → Int32 := A.2.2.2.2.2.2.2.2.2.2
def Dok (d : Dd) : Prop := (∀ i, i < 32 → d.cel i < 4096) ∧ d.mc ≤ 32 ∧ ∀ i, i < 8 → -128 ≤ d.hand i ∧ d.hand i ≤ 255
def CDeeds (σ : Mem) (k : Nat) (d : Dd) : Prop := (∀ i, i < 32 → σ (k + 1) i = nI (d.cel i)) ∧ (∀ i, i < 8 → σ (k + 2) i = d.hand i) ∧ σ k 3 = nI d.mc ∧ ∀ i, i < d.mc → σ (k + 3) i = d.met i
def RDeeds (σ : Mem) (r o : Nat) (d : Dd) : Prop := (∀ i, i < 8 → σ r (o + i) = d.hand i) ∧ (∀ i, i < 32 → σ r (o + 8 + i) = nI (d.cel i)) ∧ σ r (o + 72) = nI d.mc ∧ ∀ i, i < d.mc → σ r (o + 40 + i) = d.met i
theorem CDeeds.congr {σ σ' : Mem} {k : Nat} {d : Dd} (h : CDeeds σ k d) (hq : ∀ q, k ≤ q → q < k + 4 → σ' q = σ q) : CDeeds σ' k d := by
  unfold CDeeds at *
  rw [hq k (by omega) (by omega), hq (k + 1) (by omega) (by omega), hq (k + 2) (by omega) (by omega), hq (k + 3) (by omega) (by omega)]
  exact h
theorem RDeeds.congr {σ σ' : Mem} {r o : Nat} {d : Dd} (h : RDeeds σ r o d) (hq : σ' r = σ r) : RDeeds σ' r o d := by
  unfold RDeeds at *
  rw [hq]
  exact h
/-- words of a meaning, of the first v words -/
def cwN (F : Nat → Fm) (n m : Nat) : Nat → Nat
  | 0 => 0
  | v + 1 => cwN F n m v + if mnN F n (nI v) = m then 1 else 0
def htP (F : Nat → Fm) (n i j w : Nat) : Bool := decide (mnN F n (nI w) = 13) && (fitP (F i) (nI w) && fitP (F j) (nI w))
def wit (F : Nat → Fm) (n i j v : Nat) : Option Nat := fndF (htP F n i j) 0 v
def sumN (f : Nat → Nat) : Nat → Nat
  | 0 => 0
  | n + 1 => sumN f n + f n
def clP (F : Nat → Fm) (n v i j : Nat) : Bool := decide (i < j) && (wit F n i j v).isSome
def clN (F : Nat → Fm) (n v : Nat) : Nat := sumN (fun i => sumN (fun j => if clP F n v i j = true then 1 else 0) n) n
def CThrV (σ : Mem) (n : Nat) (F : Nat → Fm) (v : Nat) : Prop :=
  (∀ m, m < 14 → σ 278 m = nI (cwN F n m v)) ∧ (∀ i, i < n → σ 279 i = mkS (clP F n v i) n) ∧ (∀ i j w, i < j → j < n → wit F n i j v = some w → σ 280 (16 * i + j) = nI w) ∧ σ 275 7 = nI (clN F n v)
def CThr (σ : Mem) (n : Nat) (F : Nat → Fm) : Prop := σ 275 3 = 0 ∨ (σ 275 3 = 1 ∧ CThrV σ n F 4096)
theorem CThr.congr {σ σ' : Mem} {n : Nat} {F : Nat → Fm} (h : CThr σ n F) (hq : ∀ q, 275 ≤ q → q < 281 → q ≠ 276 → q ≠ 277 → σ' q = σ q) : CThr σ' n F := by
  unfold CThr CThrV at *
  rw [hq 275 (by omega) (by omega) (by omega) (by omega), hq 278 (by omega) (by omega) (by omega) (by omega), hq 279 (by omega) (by omega) (by omega) (by omega), hq 280 (by omega) (by omega) (by omega) (by omega)]
  exact h
def CSg (σ : Mem) : Prop := ∀ i l, i < 12 → l < 8 → σ (11 + 22 * i + 1 + 5 + 2 * l) 0 = if 3 < l then 1 else 0
def CTape (σ : Mem) (c : Nat) (tp : Nat → Nat) : Prop := σ 281 1 = nI c ∧ c ≤ 200 ∧ ∀ i, i < c → σ 282 i = nI (tp i) ∧ tp i < 256
def CLine (σ : Mem) (c : Nat) (ln : Nat → Int32) : Prop := σ 1 1 = nI c ∧ c ≤ 64 ∧ ∀ i, i < c → σ 2 i = ln i
def CPast (σ : Mem) (c : Nat) (ps : Nat → Dd) : Prop := σ 0 13 = nI c ∧ c ≤ 16 ∧ ∃ p0, p0 < 16 ∧ σ 0 12 = nI p0 ∧ ∀ t, t < c → CDeeds σ (298 + 4 * ((p0 + t) % 16)) (ps t) ∧ Dok (ps t)
def CKept (σ : Mem) (n : Nat) : Option (Nat × Dd) → Prop
  | none => σ 0 10 = -1
  | some (c, d) => σ 0 10 = nI c ∧ c ≤ n ∧ CDeeds σ 3 d ∧ Dok d
def CInv (σ : Mem) (A : Ab) : Prop := (CMean σ A.n A.F) ∧ (CSg σ) ∧ (CThr σ A.n A.F) ∧ (CTape σ A.tc A.tp) ∧ (CLine σ A.lc A.ln) ∧ (CDeeds σ 283 A.d ∧ Dok A.d) ∧ (CPast σ A.pc A.past) ∧ (CKept σ A.n A.kept) ∧ (∀ i, i < 3 → σ 8 i = A.rf i)
theorem CInv.mean {σ : Mem} {A : Ab} (h : CInv σ A) : CMean σ A.n A.F := h.1
theorem CInv.sg {σ : Mem} {A : Ab} (h : CInv σ A) : CSg σ := h.2.1
theorem CInv.thr {σ : Mem} {A : Ab} (h : CInv σ A) : CThr σ A.n A.F := h.2.2.1
theorem CInv.tape {σ : Mem} {A : Ab} (h : CInv σ A) : CTape σ A.tc A.tp := h.2.2.2.1
theorem CInv.line {σ : Mem} {A : Ab} (h : CInv σ A) : CLine σ A.lc A.ln := h.2.2.2.2.1
theorem CInv.now {σ : Mem} {A : Ab} (h : CInv σ A) : CDeeds σ 283 A.d ∧ Dok A.d := h.2.2.2.2.2.1
theorem CInv.past {σ : Mem} {A : Ab} (h : CInv σ A) : CPast σ A.pc A.past := h.2.2.2.2.2.2.1
theorem CInv.kept {σ : Mem} {A : Ab} (h : CInv σ A) : CKept σ A.n A.kept := h.2.2.2.2.2.2.2.1
theorem CInv.ref {σ : Mem} {A : Ab} (h : CInv σ A) : ∀ i, i < 3 → σ 8 i = A.rf i := h.2.2.2.2.2.2.2.2
/-- the rows of a form, now (o = 0) or kept (o = 14) -/
def RRaw (σ : Mem) (o i : Nat) (f : Fm) : Prop :=
  (∀ b, b < 12 → σ (366 + o) (12 * i + 11 - b) = nI (fpt f b)) ∧ σ (364 + o) i = nI (fkd f) ∧ (∀ c, c < 3 → σ (365 + o) (3 * i + c) = nI (fnm f c)) ∧
  (σ (367 + o) i = nI (frc f) ∧ ∀ r, r < frc f → σ (368 + o) (9 * i + 3 * r) = nI (frl f r).1 ∧ σ (368 + o) (9 * i + 3 * r + 1) = nI (frl f r).2.1 ∧ σ (368 + o) (9 * i + 3 * r + 2) = nI (frl f r).2.2)
def RKept (σ : Mem) (n : Nat) (F : Nat → Fm) : Option (Nat × Dd) → Prop
  | none => σ 362 26 = 0
  | some (c, d) => σ 362 26 = 1 ∧ σ 362 25 = nI c ∧ c ≤ n ∧ RDeeds σ 377 0 d ∧ Dok d ∧ ∀ i, i < c → RRaw σ 14 i (F i)
def RTape (σ : Mem) (c : Nat) (tp : Nat → Nat) : Prop := σ 362 13 = nI c ∧ c ≤ 200 ∧ ∀ i, i < c → σ 373 i = nI (tp i) ∧ tp i < 256
def RLine (σ : Mem) (c : Nat) (ln : Nat → Int32) : Prop := σ 362 15 = nI c ∧ c ≤ 64 ∧ ∀ i, i < c → σ 374 i = ln i
def RPast (σ : Mem) (c : Nat) (ps : Nat → Dd) : Prop := σ 362 18 = nI c ∧ c ≤ 16 ∧ ∀ t, t < c → RDeeds σ 376 (73 * t) (ps t) ∧ Dok (ps t)
def RInv (σ : Mem) (A : Ab) : Prop := (RForms σ A.n A.F) ∧ (RLk σ A.n A.F) ∧ (RTape σ A.tc A.tp) ∧ (RLine σ A.lc A.ln) ∧ (RDeeds σ 375 0 A.d ∧ Dok A.d) ∧ (RPast σ A.pc A.past) ∧ (RKept σ A.n A.F A.kept) ∧ (∀ i, i < 3 → σ 363 i = A.rf i)
theorem RInv.forms {σ : Mem} {A : Ab} (h : RInv σ A) : RForms σ A.n A.F := h.1
theorem RInv.lk {σ : Mem} {A : Ab} (h : RInv σ A) : RLk σ A.n A.F := h.2.1
theorem RInv.tape {σ : Mem} {A : Ab} (h : RInv σ A) : RTape σ A.tc A.tp := h.2.2.1
theorem RInv.line {σ : Mem} {A : Ab} (h : RInv σ A) : RLine σ A.lc A.ln := h.2.2.2.1
theorem RInv.now {σ : Mem} {A : Ab} (h : RInv σ A) : RDeeds σ 375 0 A.d ∧ Dok A.d := h.2.2.2.2.1
theorem RInv.past {σ : Mem} {A : Ab} (h : RInv σ A) : RPast σ A.pc A.past := h.2.2.2.2.2.1
theorem RInv.kept {σ : Mem} {A : Ab} (h : RInv σ A) : RKept σ A.n A.F A.kept := h.2.2.2.2.2.2.1
theorem RInv.ref {σ : Mem} {A : Ab} (h : RInv σ A) : ∀ i, i < 3 → σ 363 i = A.rf i := h.2.2.2.2.2.2.2
theorem CInv.congr {σ σ' : Mem} {A : Ab} (h : CInv σ A) (hq : ∀ q, q < 362 → ¬ (287 ≤ q ∧ q < 298) → σ' q = σ q) : CInv σ' A :=
  ⟨h.mean.congr (fun q a b => hq q (by omega) (by omega)),
    fun i l hi hl => by rw [hq _ (by omega) (by omega)]; exact h.sg i l hi hl,
    h.thr.congr (fun q a b _ _ => hq q (by omega) (by omega)),
    by
      have := h.tape
      unfold CTape at *
      rw [hq 281 (by omega) (by omega), hq 282 (by omega) (by omega)]; exact this,
    by
      have := h.line
      unfold CLine at *
      rw [hq 1 (by omega) (by omega), hq 2 (by omega) (by omega)]; exact this,
    ⟨h.now.1.congr (fun q a b => hq q (by omega) (by omega)), h.now.2⟩,
    by
      obtain ⟨a, b, p0, c, d, e⟩ := h.past
      refine ⟨by rw [hq 0 (by omega) (by omega)]; exact a, b, p0, c, by rw [hq 0 (by omega) (by omega)]; exact d, fun t ht => ⟨(e t ht).1.congr (fun q x y => hq q (by omega) (by omega)), (e t ht).2⟩⟩,
    by
      have := h.kept
      revert this
      cases A.kept with
      | none => intro this; show σ' 0 10 = -1; rw [hq 0 (by omega) (by omega)]; exact this
      | some p =>
        intro this
        obtain ⟨a, b, c, d⟩ := this
        exact ⟨by rw [hq 0 (by omega) (by omega)]; exact a, b, c.congr (fun q x y => hq q (by omega) (by omega)), d⟩,
    fun i hi => by rw [hq 8 (by omega) (by omega)]; exact h.ref i hi⟩
theorem RRaw.congr {σ σ' : Mem} {o i : Nat} {f : Fm} (h : RRaw σ o i f) (hq : ∀ q, 364 + o ≤ q → q ≤ 368 + o → σ' q = σ q) : RRaw σ' o i f := by
  unfold RRaw at *
  rw [hq (364 + o) (by omega) (by omega), hq (365 + o) (by omega) (by omega), hq (366 + o) (by omega) (by omega), hq (367 + o) (by omega) (by omega), hq (368 + o) (by omega) (by omega)]
  exact h
theorem RKept.congr {σ σ' : Mem} {n : Nat} {F : Nat → Fm} {kp : Option (Nat × Dd)} (h : RKept σ n F kp) (h1 : σ' 362 25 = σ 362 25) (h2 : σ' 362 26 = σ 362 26) (hq : ∀ q, 377 ≤ q → q ≤ 382 → σ' q = σ q) : RKept σ' n F kp := by
  cases kp with
  | none => exact h2.trans h
  | some p =>
    obtain ⟨a, b, c, d, e, f⟩ := h
    exact ⟨h2.trans a, h1.trans b, c, d.congr (hq 377 (by omega) (by omega)), e, fun i hi => (f i hi).congr (fun q x y => hq q (by omega) (by omega))⟩
/-- only scratch and the table of words have changed -/
theorem RInv.mk2 {σ σ' : Mem} {A : Ab} (h : RInv σ A) (hq : ∀ q, 363 ≤ q → q < 383 → q ≠ 371 → q ≠ 372 → σ' q = σ q) (ho : ∀ j, j < 27 → j ≠ 11 → σ' 362 j = σ 362 j) (hl : RLk σ' A.n A.F) : RInv σ' A :=
  ⟨h.forms.congr (ho 8 (by omega) (by omega)) (fun q a b => hq q (by omega) (by omega) (by omega) (by omega)),
    hl,
    by
      have := h.tape
      unfold RTape at *
      rw [ho 13 (by omega) (by omega), hq 373 (by omega) (by omega) (by omega) (by omega)]; exact this,
    by
      have := h.line
      unfold RLine at *
      rw [ho 15 (by omega) (by omega), hq 374 (by omega) (by omega) (by omega) (by omega)]; exact this,
    ⟨h.now.1.congr (hq 375 (by omega) (by omega) (by omega) (by omega)), h.now.2⟩,
    by
      obtain ⟨a, b, c⟩ := h.past
      exact ⟨(ho 18 (by omega) (by omega)).trans a, b, fun t ht => ⟨(c t ht).1.congr (hq 376 (by omega) (by omega) (by omega) (by omega)), (c t ht).2⟩⟩,
    h.kept.congr (ho 25 (by omega) (by omega)) (ho 26 (by omega) (by omega)) (fun q a b => hq q (by omega) (by omega) (by omega) (by omega)),
    fun i hi => by rw [hq 363 (by omega) (by omega) (by omega) (by omega)]; exact h.ref i hi⟩
theorem RLk.congr {σ σ' : Mem} {n : Nat} {F : Nat → Fm} (h : RLk σ n F) (h0 : σ' 362 11 = σ 362 11) (h1 : σ' 371 = σ 371) (h2 : σ' 372 = σ 372) : RLk σ' n F := by
  unfold RLk RTab at *
  rw [h0, h1, h2]; exact h
theorem RInv.congr {σ σ' : Mem} {A : Ab} (h : RInv σ A) (hq : ∀ q, 363 ≤ q → q < 383 → σ' q = σ q) (ho : ∀ j, j < 27 → σ' 362 j = σ 362 j) : RInv σ' A :=
  h.mk2 (fun q a b _ _ => hq q a b) (fun j a _ => ho j a) (h.lk.congr (ho 11 (by omega)) (hq 371 (by omega) (by omega)) (hq 372 (by omega) (by omega)))
/-- what each operation is to show, on either side -/
def CS {α : Type} (f : Mem → Option (α × Mem)) (g : Ab → α × Ab) : Prop := ∀ σ A, CInv σ A → ∃ σ', f σ = some ((g A).1, σ') ∧ CInv σ' (g A).2 ∧ ∀ k, 362 ≤ k → σ' k = σ k
def RS {α : Type} (f : Mem → Option (α × Mem)) (g : Ab → α × Ab) : Prop := ∀ σ A, RInv σ A → ∃ σ', f σ = some ((g A).1, σ') ∧ RInv σ' (g A).2 ∧ ∀ k, k < 362 → σ' k = σ k
