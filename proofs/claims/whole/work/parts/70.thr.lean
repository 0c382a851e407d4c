/-! ===== going through all words: the class ===== -/
def cF (p : Nat → Bool) (j : Nat) : Nat → Nat
  | 0 => 0
  | c + 1 => cF p j c + if p (j + c) then 1 else 0
theorem cF_0 {p : Nat → Bool} (h : ∀ j, p j = false) (a : Nat) : ∀ c, cF p a c = 0
  | 0 => rfl
  | c + 1 => by rw [cF, cF_0 h a c, h]; rfl
theorem cF_congr {p q : Nat → Bool} {a : Nat} : ∀ {c : Nat}, (∀ j, a ≤ j → j < a + c → p j = q j) → cF p a c = cF q a c
  | 0, _ => rfl
  | c + 1, h => by rw [cF, cF, cF_congr (c := c) (fun j h1 h2 => h j h1 (by omega)), h (a + c) (by omega) (by omega)]
theorem cF_le (p : Nat → Bool) (a : Nat) : ∀ c, cF p a c ≤ c
  | 0 => Nat.le_refl _
  | c + 1 => by rw [cF]; have := cF_le p a c; split <;> omega
theorem fndF_succ (p : Nat → Bool) : ∀ c i, fndF p i (c + 1) = match fndF p i c with | some w => some w | none => if p (i + c) = true then some (i + c) else none
  | 0, i => by simp [fndF]
  | c + 1, i => by
    show (if p i = true then some i else fndF p (i + 1) (c + 1)) = match (if p i = true then some i else fndF p (i + 1) c) with | some w => some w | none => if p (i + (c + 1)) = true then some (i + (c + 1)) else none
    by_cases h : p i = true
    · rw [if_pos h, if_pos h]
    · rw [if_neg h, if_neg h, fndF_succ p c (i + 1), show i + 1 + c = i + (c + 1) by omega]
theorem wit_succ (F : Nat → Fm) (n i j v : Nat) : wit F n i j (v + 1) = match wit F n i j v with | some w => some w | none => if htP F n i j v = true then some v else none := by
  unfold wit
  rw [fndF_succ, Nat.zero_add]
theorem clP_succ (F : Nat → Fm) (n v i j : Nat) : clP F n (v + 1) i j = (clP F n v i j || (decide (i < j) && htP F n i j v)) := by
  unfold clP
  rw [wit_succ]
  cases wit F n i j v with
  | some w => by_cases h : i < j <;> simp [h]
  | none =>
    by_cases h : i < j
    · by_cases g : htP F n i j v = true
      · simp [h, g]
      · have g' : htP F n i j v = false := by simpa using g
        simp [h, g']
    · simp [h]
theorem sumN_congr {f g : Nat → Nat} : ∀ {n : Nat}, (∀ i, i < n → f i = g i) → sumN f n = sumN g n
  | 0, _ => rfl
  | n + 1, h => by rw [sumN, sumN, sumN_congr (fun i hi => h i (by omega)), h n (by omega)]
theorem sumN_add (f g : Nat → Nat) : ∀ n, sumN (fun i => f i + g i) n = sumN f n + sumN g n
  | 0 => rfl
  | n + 1 => by rw [sumN, sumN, sumN, sumN_add f g n]; omega
theorem sumN_upd {f g : Nat → Nat} {i d : Nat} : ∀ {n : Nat}, i < n → (∀ k, k < n → k ≠ i → g k = f k) → g i = f i + d → sumN g n = sumN f n + d
  | 0, h, _, _ => by omega
  | n + 1, h, h1, h2 => by
    rw [sumN, sumN]
    by_cases e : i = n
    · subst e
      rw [sumN_congr (fun k hk => h1 k (by omega) (by omega)), h2]; omega
    · rw [sumN_upd (by omega) (fun k hk hk2 => h1 k (by omega) hk2) h2, h1 n (by omega) (by omega)]; omega
theorem sumN_cF (r : Nat → Bool) (a : Nat) : ∀ c, sumN (fun j => if a ≤ j ∧ r j = true then 1 else 0) (a + c) = cF r a c
  | 0 => by
    have : ∀ k, k ≤ a → sumN (fun j => if a ≤ j ∧ r j = true then 1 else 0) k = 0 := by
      intro k
      induction k with
      | zero => intro _; rfl
      | succ k ih => intro hk; rw [sumN, ih (by omega), if_neg (by omega)]
    exact this a (Nat.le_refl a)
  | c + 1 => by
    rw [show a + (c + 1) = a + c + 1 from rfl, sumN, sumN_cF r a c, cF]
    congr 1
    by_cases h : r (a + c) = true <;> simp [h]
theorem bt_m2 : ∀ i, i < 12 → ∀ j, j < 32 → bt (-((2 : Int32) <<< (nI i &&& 31))) j = decide (i < j) := by decide +kernel
theorem e16 (i j : Nat) : (16 : Int32) * nI i + nI j = nI (16 * i + j) := by
  rw [show (16 : Int32) = nI 16 from rfl, pk_mul, nI_add]
theorem noteB {n i v : Nat} (hn : n ≤ 12) (hi : i < n) (y11 fr : Int32) (kk : Mem → Option (Unit × Mem)) (σ : Mem) (h9 : σ 9 1 = nI n) :
    ∃ m', fX6_noteClashes_L47 kk (nI v) y11 (nI i) fr 5000 σ (nI (i + 1)) = kk m' ∧ (∀ q, q ≠ 275 → q ≠ 280 → m' q = σ q) ∧ (∀ j, j ≠ 7 → m' 275 j = σ 275 j) ∧ (∀ j, i < j → j < n → m' 280 (16 * i + j) = if bt fr j = true then nI v else σ 280 (16 * i + j)) ∧ (∀ x, x ≤ 16 * i + i ∨ 16 * i + n ≤ x → m' 280 x = σ 280 x) ∧ m' 275 7 = σ 275 7 + nI (cF (bt fr) (i + 1) (n - (i + 1))) := by
  refine loopM (fX6_noteClashes_L47 kk (nI v) y11 (nI i) fr) (fX6_noteClashes_L47_b kk (nI v) y11 (nI i) fr) (fun _ _ _ => rfl) n
    (fun j m => (∀ q, q ≠ 275 → q ≠ 280 → m q = σ q) ∧ (∀ x, x ≠ 7 → m 275 x = σ 275 x) ∧ (∀ p, i < p → p < n → m 280 (16 * i + p) = if p < j ∧ bt fr p = true then nI v else σ 280 (16 * i + p)) ∧ (∀ x, x ≤ 16 * i + i ∨ 16 * i + n ≤ x → m 280 x = σ 280 x) ∧ i < j ∧ m 275 7 = σ 275 7 + nI (cF (bt fr) (i + 1) (j - (i + 1))))
    (fun r => ∃ m', r = kk m' ∧ (∀ q, q ≠ 275 → q ≠ 280 → m' q = σ q) ∧ (∀ j, j ≠ 7 → m' 275 j = σ 275 j) ∧ (∀ j, i < j → j < n → m' 280 (16 * i + j) = if bt fr j = true then nI v else σ 280 (16 * i + j)) ∧ (∀ x, x ≤ 16 * i + i ∨ 16 * i + n ≤ x → m' 280 x = σ 280 x) ∧ m' 275 7 = σ 275 7 + nI (cF (bt fr) (i + 1) (n - (i + 1)))) ?_ ?_ 5000 (i + 1) σ (by omega) (by omega) ⟨fun _ _ _ => rfl, fun _ _ => rfl, fun p h1 h2 => by rw [if_neg (by omega)], fun _ _ => rfl, by omega, by rw [Nat.sub_self]; exact (Int32.add_zero _).symm⟩
  · rintro m rec ⟨h1, h2, h3, h4, h5, h6⟩
    unfold fX6_noteClashes_L47_b
    rw [h1 9 (by decide) (by decide), h9, if_neg (nI_nlt (Nat.le_refl n) (by omega))]
    refine ⟨m, rfl, h1, h2, fun j a b => ?_, h4, h6⟩
    rw [h3 j a b]
    simp [b]
  · rintro j m rec hj ⟨h1, h2, h3, h4, h5, h6⟩
    unfold fX6_noteClashes_L47_b
    rw [h1 9 (by decide) (by decide), h9, if_pos (nI_lt hj (by omega))]
    by_cases e : fr = 0
    · left
      rw [if_pos e]
      have hb : ∀ p, bt fr p = false := fun p => by rw [e]; exact bt_0 p
      refine ⟨m, rfl, h1, h2, fun p a b => ?_, h4, ?_⟩
      · rw [h3 p a b]; simp [hb]
      · rw [h6, cF_0 hb, cF_0 hb]
    · right
      rw [if_neg e, lt_e, shr1 (by omega), nI_1]
      have hc : cF (bt fr) (i + 1) (j + 1 - (i + 1)) = cF (bt fr) (i + 1) (j - (i + 1)) + if bt fr j = true then 1 else 0 := by
        rw [show j + 1 - (i + 1) = (j - (i + 1)) + 1 by omega, cF, show i + 1 + (j - (i + 1)) = j by omega]
      by_cases hb : bt fr j = true
      · rw [if_pos hb, if_pos rfl, e16, ck_t (inb_nI (show 16 * i + j < 192 by omega) (by decide)), ix_nI (by omega), lt_e, lt_e]
        refine ⟨_, ⟨fun q a b => by rw [sto_ne a, sto_ne b]; exact h1 q a b, fun x hx => by rw [sto_nj hx, sto_ne (by decide)]; exact h2 x hx, fun p a b => ?_, fun x hx => ?_, by omega, ?_⟩, rfl⟩
        · rw [sto_ne (by decide)]
          by_cases ep : p = j
          · subst ep
            rw [sto_eq, if_pos ⟨by omega, hb⟩]
          · rw [sto_nj (by omega), h3 p a b]
            have : (p < j ∧ bt fr p = true) ↔ (p < j + 1 ∧ bt fr p = true) := by
              constructor
              · intro ⟨x, y⟩; exact ⟨by omega, y⟩
              · intro ⟨x, y⟩; exact ⟨by omega, y⟩
            simp only [this]
        · rw [sto_ne (by decide), sto_nj (by omega)]; exact h4 x hx
        · rw [sto_eq, sto_ne (by decide), h6, hc, if_pos hb, ← nI_1, Int32.add_assoc]
      · have hb' : bt fr j = false := by simpa using hb
        rw [if_neg hb, if_neg (by decide)]
        refine ⟨m, ⟨h1, h2, fun p a b => ?_, h4, by omega, ?_⟩, rfl⟩
        · rw [h3 p a b]
          have : (p < j ∧ bt fr p = true) ↔ (p < j + 1 ∧ bt fr p = true) := by
            constructor
            · intro ⟨x, y⟩; exact ⟨by omega, y⟩
            · intro ⟨x, y⟩
              refine ⟨?_, y⟩
              by_cases ep : p = j
              · subst ep; rw [hb'] at y; cases y
              · omega
          simp only [this]
        · rw [h6, hc, if_neg hb]; rfl
def CCl (σ : Mem) (n : Nat) (F : Nat → Fm) (vv : Nat → Nat) : Prop :=
  (∀ i, i < n → σ 279 i = mkS (clP F n (vv i) i) n) ∧ (∀ i j w, i < j → j < n → wit F n i j (vv i) = some w → σ 280 (16 * i + j) = nI w) ∧ σ 275 7 = nI (sumN (fun i => sumN (fun j => if clP F n (vv i) i j = true then 1 else 0) n) n)
/-- one form's clashes with those behind it, at a word -/
theorem noteA {n v : Nat} {F : Nat → Fm} (hn : n ≤ 12) (hm : mnN F n (nI v) = 13) (kk : Mem → Option (Unit × Mem)) (σ : Mem) (h9 : σ 9 1 = nI n) (h0 : CCl σ n F (fun _ => v)) :
    ∃ m', fX6_noteClashes_L2 kk (nI v) (fitS F n (nI v)) 5000 σ 0 = kk m' ∧ (∀ q, q ≠ 275 → q ≠ 279 → q ≠ 280 → m' q = σ q) ∧ (∀ j, j ≠ 7 → m' 275 j = σ 275 j) ∧ CCl m' n F (fun _ => v + 1) := by
  refine loopM (fX6_noteClashes_L2 kk (nI v) (fitS F n (nI v))) (fX6_noteClashes_L2_b kk (nI v) (fitS F n (nI v))) (fun _ _ _ => rfl) n
    (fun i m => (∀ q, q ≠ 275 → q ≠ 279 → q ≠ 280 → m q = σ q) ∧ (∀ x, x ≠ 7 → m 275 x = σ 275 x) ∧ CCl m n F (fun k => if k < i then v + 1 else v))
    (fun r => ∃ m', r = kk m' ∧ (∀ q, q ≠ 275 → q ≠ 279 → q ≠ 280 → m' q = σ q) ∧ (∀ j, j ≠ 7 → m' 275 j = σ 275 j) ∧ CCl m' n F (fun _ => v + 1)) ?_ ?_ 5000 0 σ (by omega) (by omega) ⟨fun _ _ _ _ => rfl, fun _ _ => rfl, by simpa using h0⟩
  · rintro m rec ⟨h1, h2, h3⟩
    unfold fX6_noteClashes_L2_b
    rw [h1 9 (by decide) (by decide) (by decide), h9, if_neg (nI_nlt (Nat.le_refl n) (by omega))]
    refine ⟨m, rfl, h1, h2, fun i hi => ?_, fun i j w a b c => ?_, ?_⟩
    · have := h3.1 i hi
      simp only [hi, if_true] at this
      exact this
    · have hi : i < n := by omega
      have := h3.2.1 i j w a b
      simp only [hi, if_true] at this
      exact this c
    · rw [h3.2.2]
      congr 1
      exact sumN_congr (fun i hi => by simp only [hi, if_true])
  · rintro i m rec hi ⟨h1, h2, h3⟩
    right
    unfold fX6_noteClashes_L2_b
    have hnot : ¬ i < i := by omega
    have hrow : m 279 i = mkS (clP F n v i) n := by
      have := h3.1 i hi
      simp only [hnot, if_false] at this
      exact this
    -- the fresh ones
    obtain ⟨fr, hfr, hfb⟩ : ∃ fr : Int32, (∀ j, i < j → j < n → bt fr j = (htP F n i j v && !clP F n v i j)) ∧ (∀ j, ¬ (i < j ∧ j < n) → bt fr j = false) ∧
        (if ((fitS F n (nI v) >>> (nI i &&& 31)) &&& (1 : Int32)) = (0 : Int32) then (0 : Int32) else ((fitS F n (nI v) &&& (-((2 : Int32) <<< (nI i &&& 31)))) &&& ((m 279 i) ^^^ (-1 : Int32)))) = fr := by
      refine ⟨_, fun j a b => ?_, fun j a => ?_, rfl⟩
      · rw [shr1 (by omega), fitS_bt hn]
        simp only [hi, decide_true, Bool.true_and]
        have hbase : htP F n i j v = (fitP (F i) (nI v) && fitP (F j) (nI v)) := by unfold htP; simp [hm]
        cases hf : fitP (F i) (nI v) with
        | false => rw [hbase, hf]; simp [bt_0]
        | true =>
          have hj32 : j < 32 := by omega
          rw [if_neg (by decide), bt_and, bt_and, bt_not, fitS_bt hn, bt_m2 i (by omega) j hj32, hrow, bt_mkS _ (by omega), hbase, hf]
          simp [a, b, hj32]
      · rw [shr1 (by omega), fitS_bt hn]
        simp only [hi, decide_true, Bool.true_and]
        cases hf : fitP (F i) (nI v) with
        | false => simp [bt_0]
        | true =>
          rw [if_neg (by decide), bt_and, bt_and, bt_not, fitS_bt hn]
          by_cases hj32 : j < 32
          · rw [bt_m2 i (by omega) j hj32]
            by_cases e1 : i < j
            · have : ¬ j < n := fun z => a ⟨e1, z⟩
              simp [this]
            · simp [e1]
          · simp [hj32]
    obtain ⟨m1, b1, b2, b3, b4, b5, b6⟩ := noteB (v := v) hn hi (fitS F n (nI v)) fr (fun (m16 : Mem) =>
          ck (inb (nI i) 12) <|
          ck (inb (nI i) 12) <|
          lt (sto m16 279 (ix (nI i)) ((m16 279 (ix (nI i))) ||| fr)) <| fun m17 =>
          rec m17 (nI i + (1 : Int32))) m (by rw [h1 9 (by decide) (by decide) (by decide)]; exact h9)
    have hgo : fX6_noteClashes_L2_b kk (nI v) (fitS F n (nI v)) rec m (nI i) = rec (sto m1 279 i (m1 279 i ||| fr)) (nI (i + 1)) := by
      unfold fX6_noteClashes_L2_b
      have hin := inb_nI (show i < 12 by omega) (show 12 < 2 ^ 31 by decide)
      rw [h1 9 (by decide) (by decide) (by decide), h9, if_pos (nI_lt hi (by omega))]
      simp only [ck_t hin, lt_e, ix_nI (show i < 2 ^ 31 by omega), nI_1] at b1 ⊢
      have hfb2 := hfb.2
      by_cases c0 : ((fitS F n (nI v) >>> (nI i &&& 31)) &&& (1 : Int32)) = (0 : Int32)
      · rw [if_pos c0] at hfb2 ⊢
        rw [hfb2, b1]
      · rw [if_neg c0] at hfb2 ⊢
        rw [hfb2, b1]
    refine ⟨_, ⟨fun q a b c => ?_, fun x hx => ?_, fun k hk => ?_, fun k j w a b c => ?_, ?_⟩, hgo⟩
    · rw [sto_ne b, b2 q a c]; exact h1 q a b c
    · rw [sto_ne (by decide), b3 x hx]; exact h2 x hx
    · by_cases e : k = i
      · subst e
        have hlt : k < k + 1 := by omega
        simp only [hlt, if_true]
        rw [sto_eq, b2 279 (by decide) (by decide), hrow]
        apply bt_ext
        intro j hj
        rw [bt_or, bt_mkS _ (by omega), bt_mkS _ (by omega), clP_succ]
        by_cases hjr : k < j ∧ j < n
        · rw [hfr j hjr.1 hjr.2]
          simp only [hjr.1, hjr.2, decide_true, Bool.true_and]
          cases clP F n v k j <;> simp
        · rw [hfb.1 j hjr]
          by_cases e2 : k < j
          · have : ¬ j < n := fun z => hjr ⟨e2, z⟩
            simp [this]
          · simp [e2]
      · rw [sto_nj e, b2 279 (by decide) (by decide), h3.1 k hk]
        have : (k < i + 1) ↔ (k < i) := by omega
        simp only [this]
    · rw [sto_ne (by decide)]
      by_cases e : k = i
      · subst e
        have hlt : k < k + 1 := by omega
        simp only [hlt, if_true] at c
        rw [b4 j a b, hfr j a b]
        rw [wit_succ] at c
        have h3w := h3.2.1 k j
        simp only [hnot, if_false] at h3w
        cases hw : wit F n k j v with
        | some u =>
          rw [hw] at c
          simp only [Option.some.injEq] at c
          subst c
          have hcl : clP F n v k j = true := by unfold clP; simp [a, hw]
          rw [hcl]
          simp
          exact h3w u a b hw
        | none =>
          rw [hw] at c
          have hcl : clP F n v k j = false := by unfold clP; simp [hw]
          by_cases g : htP F n k j v = true
          · rw [g, hcl]
            simp only [g, if_true, Option.some.injEq] at c
            subst c
            simp
          · simp only [g] at c
            cases c
      · have hx : 16 * k + j ≤ 16 * i + i ∨ 16 * i + n ≤ 16 * k + j := by omega
        rw [b5 _ hx]
        have : (k < i + 1) ↔ (k < i) := by omega
        simp only [this] at c
        exact h3.2.1 k j w a b c
    · rw [sto_ne (by decide), b6, h3.2.2, nI_add]
      congr 1
      symm
      refine sumN_upd hi (fun k _ hk => ?_) ?_
      · have : (k < i + 1) ↔ (k < i) := by omega
        simp only [this]
      · have hlt : i < i + 1 := by omega
        simp only [hlt, hnot, if_true, if_false]
        have hs := sumN_cF (bt fr) (i + 1) (n - (i + 1))
        rw [show i + 1 + (n - (i + 1)) = n by omega] at hs
        rw [← hs, ← sumN_add]
        refine sumN_congr (fun j hj => ?_)
        rw [clP_succ]
        by_cases hij : i < j
        · rw [hfr j hij hj]
          have : i + 1 ≤ j := hij
          cases clP F n v i j <;> cases htP F n i j v <;> simp [hij, this]
        · have : ¬ i + 1 ≤ j := by omega
          simp [hij, this]
theorem noteClashes_ok {n v : Nat} {F : Nat → Fm} (hn : n ≤ 12) (hm : mnN F n (nI v) = 13) (σ : Mem) (h9 : σ 9 1 = nI n) (h0 : CCl σ n F (fun _ => v)) :
    ∃ m', fX6_noteClashes σ (nI v) (fitS F n (nI v)) = some ((), m') ∧ (∀ q, q ≠ 275 → q ≠ 279 → q ≠ 280 → m' q = σ q) ∧ (∀ j, j ≠ 7 → m' 275 j = σ 275 j) ∧ CCl m' n F (fun _ => v + 1) :=
  noteA hn hm (fun m6 => some ((), m6)) σ h9 h0
theorem CMean.congr2 {σ σ' : Mem} {n : Nat} {F : Nat → Fm} (h : CMean σ n F) (hq : ∀ q, 9 ≤ q → q < 278 → q ≠ 275 → σ' q = σ q) : CMean σ' n F :=
  ⟨h.1.congr (fun q a b => hq q a (by omega) (by omega)), fun i hi => by rw [hq 277 (by omega) (by omega) (by omega)]; exact h.2.1 i hi, fun w hw => by rw [hq 276 (by omega) (by omega) (by omega)]; exact h.2.2 w hw⟩
theorem CCl.next {σ : Mem} {n v : Nat} {F : Nat → Fm} (h : CCl σ n F (fun _ => v)) (hm : mnN F n (nI v) ≠ 13) : CCl σ n F (fun _ => v + 1) := by
  have hh : ∀ i j, htP F n i j v = false := fun i j => by unfold htP; simp [hm]
  have hw : ∀ i j, wit F n i j (v + 1) = wit F n i j v := fun i j => by
    rw [wit_succ, hh]
    cases wit F n i j v <;> simp
  have hc : ∀ i, clP F n (v + 1) i = clP F n v i := fun i => by funext j; rw [clP_succ, hh]; simp
  refine ⟨fun i hi => ?_, fun i j w a b c => ?_, ?_⟩
  · rw [hc]; exact h.1 i hi
  · rw [hw] at c; exact h.2.1 i j w a b c
  · simp only [hc]; exact h.2.2
theorem CCl.congr {σ σ' : Mem} {n : Nat} {F : Nat → Fm} {vv : Nat → Nat} (h : CCl σ n F vv) (h1 : σ' 279 = σ 279) (h2 : σ' 280 = σ 280) (h3 : σ' 275 = σ 275) : CCl σ' n F vv := by
  unfold CCl at *
  rw [h1, h2, h3]; exact h
theorem goThrough_loop {n : Nat} {F : Nat → Fm} (σ : Mem) (hM : CMean σ n F) (h0 : CThrV σ n F 0) (kk : Mem → Option (Unit × Mem)) :
    ∃ m', fX6_goThrough_L31 kk 5000 σ 0 = kk m' ∧ (∀ q, q < 275 ∨ 281 ≤ q ∨ q = 277 → m' q = σ q) ∧ CMean m' n F ∧ CThrV m' n F 4096 := by
  refine loopM (fX6_goThrough_L31 kk) (fX6_goThrough_L31_b kk) (fun _ _ _ => rfl) 4096
    (fun v m => (∀ q, q < 275 ∨ 281 ≤ q ∨ q = 277 → m q = σ q) ∧ CMean m n F ∧ CThrV m n F v)
    (fun r => ∃ m', r = kk m' ∧ (∀ q, q < 275 ∨ 281 ≤ q ∨ q = 277 → m' q = σ q) ∧ CMean m' n F ∧ CThrV m' n F 4096) ?_ ?_ 5000 0 σ (by omega) (by omega) ⟨fun _ _ => rfl, hM, h0⟩
  · rintro m rec ⟨h1, h2, h3⟩
    unfold fX6_goThrough_L31_b
    rw [if_neg (by decide)]
    exact ⟨m, rfl, h1, h2, h3⟩
  · rintro v m rec hv ⟨h1, h2, h3⟩
    right
    have hn := h2.1.2.1
    have hm := mnN_lt (F := F) hn (nI v)
    obtain ⟨m1, a1, a2⟩ := meaning_ex h2 hv
    have hin := inb_nI hm.1 (show 14 < 2 ^ 31 by decide)
    unfold fX6_goThrough_L31_b
    rw [if_pos (show nI v < 4096 from nI_lt (b := 4096) hv (by decide)), a1, cl_s, within_ok, cl_s, if_pos (show 0 ≤ nI (mnN F n (nI v)) ∧ nI (mnN F n (nI v)) ≤ 13 from ⟨nI_pos' (by omega), nI_le (b := 13) (by omega) (by decide)⟩)]
    simp only [lt_e, ck_t hin, ix_nI (show mnN F n (nI v) < 2 ^ 31 by omega), nI_1]
    rw [if_neg (by decide)]
    have hm2 : CMean (sto m1 278 (mnN F n (nI v)) (m1 278 (mnN F n (nI v)) + 1)) n F := a2.1.congr (fun q _ _ => sto_ne (by omega))
    have hwd : ∀ m, m < 14 → sto m1 278 (mnN F n (nI v)) (m1 278 (mnN F n (nI v)) + 1) 278 m = nI (cwN F n m (v + 1)) := by
      intro k hk
      have h278 : m1 278 = m 278 := a2.2 278 (by decide)
      rw [cwN]
      by_cases e : k = mnN F n (nI v)
      · subst e
        rw [sto_eq, h278, h3.1 _ hk, if_pos rfl, nI_1]
      · rw [sto_nj e, h278, h3.1 _ hk, if_neg (fun z => e z.symm)]; rfl
    have hcl : CCl (sto m1 278 (mnN F n (nI v)) (m1 278 (mnN F n (nI v)) + 1)) n F (fun _ => v) := (show CCl m n F (fun _ => v) from h3.2).congr (by rw [sto_ne (by decide)]; exact a2.2 279 (by decide)) (by rw [sto_ne (by decide)]; exact a2.2 280 (by decide)) (by rw [sto_ne (by decide)]; exact a2.2 275 (by decide))
    generalize hs : sto m1 278 (mnN F n (nI v)) (m1 278 (mnN F n (nI v)) + 1) = s at *
    have hsq : ∀ q, q ≠ 276 → q ≠ 278 → s q = m q := fun q x y => by rw [← hs, sto_ne y]; exact a2.2 q x
    by_cases e : mnN F n (nI v) = 13
    · rw [if_pos (show nI (mnN F n (nI v)) = 13 by rw [e]; rfl)]
      obtain ⟨m2, b1, b2⟩ := fitting_ex hm2 hv
      rw [b1, cl_s]
      obtain ⟨m3, c1, c2, c3, c4⟩ := noteClashes_ok hn e m2 b2.1.1.1 (hcl.congr (b2.2 279 (by decide)) (b2.2 280 (by decide)) (b2.2 275 (by decide)))
      rw [c1, cl_s]
      refine ⟨m3, ⟨fun q hq => ?_, b2.1.congr2 (fun q x y z => c2 q (by omega) (by omega) (by omega)), fun k hk => ?_, c4⟩, rfl⟩
      · rw [c2 q (by omega) (by omega) (by omega), b2.2 q (by omega), hsq q (by omega) (by omega)]; exact h1 q hq
      · rw [c2 278 (by decide) (by decide) (by decide), b2.2 278 (by decide)]; exact hwd k hk
    · rw [if_neg (show ¬ nI (mnN F n (nI v)) = 13 from fun z => e ((nI_eq (b := 13) (by omega) (by decide)).mp z))]
      refine ⟨s, ⟨fun q hq => ?_, hm2, hwd, hcl.next e⟩, rfl⟩
      rw [hsq q (by omega) (by omega)]; exact h1 q hq
theorem sumN_0 {f : Nat → Nat} : ∀ {n : Nat}, (∀ i, i < n → f i = 0) → sumN f n = 0
  | 0, _ => rfl
  | n + 1, h => by rw [sumN, sumN_0 (fun i hi => h i (by omega)), h n (by omega)]
theorem goThrough_ok {σ : Mem} {A : Ab} (h : CInv σ A) : ∃ σ', fX6_goThrough σ = some ((), σ') ∧ CInv σ' A ∧ Hi σ σ' ∧ CThrV σ' A.n A.F 4096 := by
  unfold fX6_goThrough
  rcases h.thr with h3 | ⟨h3, h4⟩
  case inr =>
    rw [if_neg (by rw [h3]; decide)]
    exact ⟨σ, rfl, h, fun _ _ => rfl, h4⟩
  rw [if_pos h3]
  obtain ⟨m1, a1, a2, a3⟩ := fill_ok (q := 278) (N := 14) (by decide) rfl 0 σ
  rw [a1, cl_s]
  obtain ⟨m2, b1, b2, b3⟩ := fill_ok (q := 279) (N := 12) (by decide) rfl 0 m1
  rw [b1, cl_s, lt_e]
  have hn := h.mean.1.2.1
  have hs : ∀ q, q ≠ 275 → q ≠ 278 → q ≠ 279 → sto m2 275 7 0 q = σ q := fun q x y z => by rw [sto_ne x, b2 q z, a2 q y]
  have hcl0 : ∀ i j, clP A.F A.n 0 i j = false := fun i j => by simp [clP, wit, fndF]
  obtain ⟨m3, c1, c2, c3, c4⟩ := goThrough_loop (sto m2 275 7 0) (h.mean.congr2 (fun q x y z => hs q (by omega) (by omega) (by omega))) ⟨fun k hk => by rw [sto_ne (by decide), b2 278 (by decide), a3 k hk]; rfl, fun i hi => by
      rw [sto_ne (by decide), b3 i (by omega)]
      symm
      rw [eq0_bt]
      intro j hj
      rw [bt_mkS _ (by omega), hcl0]; simp, fun i j w _ _ hw => by simp [wit, fndF] at hw, by
      rw [sto_eq]
      have : clN A.F A.n 0 = 0 := sumN_0 (fun i _ => sumN_0 (fun j _ => by rw [hcl0]; rfl))
      rw [this]; rfl⟩ (fun (m7 : Mem) => lt (sto m7 275 3 (1 : Int32)) <| fun m8 => some ((), m8))
  rw [c1, lt_e]
  have ht : ∀ q, q < 275 ∨ 281 ≤ q ∨ q = 277 → sto m3 275 3 1 q = σ q := fun q hq => by rw [sto_ne (by omega), c2 q hq, hs q (by omega) (by omega) (by omega)]
  have hv : CThrV (sto m3 275 3 1) A.n A.F 4096 := by
    refine ⟨fun k hk => by rw [sto_ne (by decide)]; exact c4.1 k hk, fun i hi => by rw [sto_ne (by decide)]; exact c4.2.1 i hi, fun i j w x y z => by rw [sto_ne (by decide)]; exact c4.2.2.1 i j w x y z, by rw [sto_nj (by decide)]; exact c4.2.2.2⟩
  refine ⟨_, rfl, ⟨c3.congr2 (fun q x y z => sto_ne (by omega)), h.sg.congr (fun q x y => ht q (by omega)), Or.inr ⟨sto_eq, hv⟩, h.tape.congr (ht _ (by decide)) (ht _ (by decide)), h.line.congr (ht _ (by decide)) (ht _ (by decide)), ⟨h.now.1.congr (fun q x y => ht q (by omega)), h.now.2⟩, h.past.congr (by rw [ht 0 (by decide)]) (by rw [ht 0 (by decide)]) (fun q x y => ht q (by omega)), h.kept.congr (by rw [ht 0 (by decide)]) (fun q x y => ht q (by omega)), fun i hi => by rw [ht 8 (by decide)]; exact h.ref i hi⟩, fun k hk => ht k (by omega), hv⟩
