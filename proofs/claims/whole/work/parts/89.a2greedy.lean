/-! ===== greedy trees ===== -/
theorem loopEc {S T U V R : Type} (ctr : Nat → Int32) (f : Nat → S → T → U → V → Int32 → Option R) (b : (S → T → U → V → Int32 → Option R) → S → T → U → V → Int32 → Option R) (hf : ∀ n s t u v x, f (n + 1) s t u v x = b (f n) s t u v x) (N : Nat) (I : Nat → S → T → U → V → Prop) (Q : Option R → Prop)
    (he : ∀ m t u v rec, I N m t u v → Q (b rec m t u v (ctr N))) (h : ∀ i m t u v rec, i < N → I i m t u v → Q (b rec m t u v (ctr i)) ∨ ∃ m' t' u' v', I (i + 1) m' t' u' v' ∧ b rec m t u v (ctr i) = rec m' t' u' v' (ctr (i + 1))) : ∀ fuel i m t u v, i ≤ N → N - i < fuel → I i m t u v → Q (f fuel m t u v (ctr i)) := by
  intro fuel
  induction fuel with
  | zero => intro i m t u v _ hn; omega
  | succ n ih =>
    intro i m t u v hi hn hI
    rw [hf]
    by_cases e : i = N
    · subst e; exact he _ _ _ _ _ hI
    · rcases h i m t u v (f n) (by omega) hI with h1 | ⟨m', t', u', v', h2, h3⟩
      · exact h1
      · rw [h3]; exact ih (i + 1) m' t' u' v' (by omega) (by omega) h2
def szS (S : Int32) : Int32 := nI (cnt (bt S) 32)
abbrev G3 : Type := Int32 × Int32 × Int32
def mrS (F : Nat → Fm) (n : Nat) (S : Int32) (b : Nat) : Int32 := imax (szS (sdS F n S b false)) (szS (sdS F n S b true))
def smS (F : Nat → Fm) (n : Nat) (S : Int32) (b : Nat) : Int32 := szS (sdS F n S b false) + szS (sdS F n S b true)
def gst (F : Nat → Fm) (n : Nat) (S T : Int32) (b : Nat) (s : G3) : G3 :=
  if (bt T b && usf F n S b) = true then
    (if s.1 = -1 ∨ mrS F n S b < s.2.1 ∨ (mrS F n S b = s.2.1 ∧ smS F n S b < s.2.2) then (nI b, mrS F n S b, smS F n S b) else s)
  else s
def gfd (F : Nat → Fm) (n : Nat) (S T : Int32) : Nat → G3
  | 0 => (-1, 0, 0)
  | k + 1 => gst F n S T (11 - k) (gfd F n S T k)
def gB (F : Nat → Fm) (n : Nat) (S T : Int32) : Int32 := (gfd F n S T 12).1
theorem gfd_1 (F : Nat → Fm) (n : Nat) (S T : Int32) : ∀ k, (gfd F n S T k).1 = -1 ∨ ∃ b, b < 12 ∧ (gfd F n S T k).1 = nI b ∧ bt T b = true ∧ usf F n S b = true
  | 0 => Or.inl rfl
  | k + 1 => by
    have ih := gfd_1 F n S T k
    rw [gfd, gst]
    by_cases c : (bt T (11 - k) && usf F n S (11 - k)) = true
    · rw [if_pos c]
      simp only [Bool.and_eq_true] at c
      split
      · exact Or.inr ⟨11 - k, by omega, rfl, c.1, c.2⟩
      · exact ih
    · rw [if_neg c]; exact ih
theorem neg1_iff {x : Int32} (h : x = -1 ∨ ∃ b, b < 12 ∧ x = nI b ∧ True) : x < 0 ↔ x = -1 := by
  rcases h with rfl | ⟨b, hb, rfl, _⟩
  · decide
  · constructor
    · intro z; exact absurd z (nI_pos (by omega))
    · intro z; exact absurd (nI_pos' (show b < 2 ^ 31 by omega)) (by rw [z]; decide)
theorem imax_alt (a b : Int32) : (if b < a then a else b) = imax a b := by
  unfold imax
  by_cases h : b < a
  · rw [if_pos h, if_neg (by rw [Int32.not_lt]; exact Int32.le_of_lt h)]
  · rw [if_neg h]
    by_cases g : a < b
    · rw [if_pos g]
    · rw [if_neg g]
      rw [Int32.not_lt] at h g
      exact Int32.le_antisymm g h
theorem sd_f (F : Nat → Fm) (n : Nat) (S : Int32) (b : Nat) : S &&& (onesS F n b ^^^ -1) = sdS F n S b false := by
  unfold sdS
  simp only [Bool.false_eq_true, if_false]
theorem sd_t (F : Nat → Fm) (n : Nat) (S : Int32) (b : Nat) : S &&& (zerosS F n b ^^^ -1) = sdS F n S b true := by
  unfold sdS
  simp only [if_true]
theorem mrS_e (F : Nat → Fm) (n : Nat) (S : Int32) (b : Nat) : imax (nI (cnt (bt (sdS F n S b false)) 32)) (nI (cnt (bt (sdS F n S b true)) 32)) = mrS F n S b := by
  unfold mrS szS
  rfl
theorem smS_e (F : Nat → Fm) (n : Nat) (S : Int32) (b : Nat) : nI (cnt (bt (sdS F n S b false)) 32) + nI (cnt (bt (sdS F n S b true)) 32) = smS F n S b := by
  unfold smS szS
  rfl
theorem cgreedyBit_ok {σ : Mem} {n : Nat} {F : Nat → Fm} (hn : n ≤ 12) (h : CT σ F n) {S : Int32} (hS : isS n S) (T : Int32) : fX8_greedyBit σ T S = some (gB F n S T, σ) := by
  unfold fX8_greedyBit
  rw [show (11 : Int32) = (fun k => nI (12 - k) - 1) 0 from by decide]
  refine loopEc (fun k => nI (12 - k) - 1) (fX8_greedyBit_L12 (fun (m10 : Mem) (x11 : Int32) => some (x11, m10)) T S) (fX8_greedyBit_L12_b (fun (m10 : Mem) (x11 : Int32) => some (x11, m10)) T S) (fun _ _ _ _ _ _ => rfl) 12
    (fun k m t u v => m = σ ∧ t = (gfd F n S T k).1 ∧ u = (gfd F n S T k).2.1 ∧ v = (gfd F n S T k).2.2)
    (fun r => r = some (gB F n S T, σ)) ?_ ?_ 5000 0 σ (-1) 0 0 (by omega) (by omega) ⟨rfl, rfl, rfl, rfl⟩
  · rintro m t u v rec ⟨rfl, rfl, rfl, rfl⟩
    unfold fX8_greedyBit_L12_b
    rw [if_pos (by decide)]
    rfl
  · rintro k m t u v rec hk ⟨rfl, rfl, rfl, rfl⟩
    right
    unfold fX8_greedyBit_L12_b
    have hb : 11 - k < 12 := by omega
    have hB := inb_nI hb (show 12 < 2 ^ 31 by decide)
    have w0 := isS_isW hn (isS_sd (F := F) hS (11 - k) false)
    have w1 := isS_isW hn (isS_sd (F := F) hS (11 - k) true)
    rw [dn12 hk, if_neg (nI_pos (by omega)), dn12' hk, shr1 (by omega), cuse_ok hn h hS hb]
    rw [lt_e, cl_s]
    refine ⟨m, _, _, _, ⟨rfl, rfl, rfl, rfl⟩, ?_⟩
    rw [gfd, gst]
    by_cases cT : bt T (11 - k) = true
    · rw [if_pos cT, if_neg (by decide)]
      by_cases cU : usf F n S (11 - k) = true
      · rw [if_pos cU, if_neg (by decide), if_pos (show (bt T (11 - k) && usf F n S (11 - k)) = true by simp [cT, cU])]
        rw [ck_t hB, ix_nI (show 11 - k < 2 ^ 31 by omega), (h _ hb).1, sd_f, bitCount_ok m w0, cl_s, ck_t hB, (h _ hb).2, sd_t, bitCount_ok m w1, cl_s, mrS_e, smS_e, lt_e, lt_e, lt_e]
        by_cases a1 : (gfd F n S T k).1 = -1
        · rw [if_pos a1, if_pos (Or.inl a1)]
        rw [if_neg a1]
        by_cases a2 : mrS F n S (11 - k) < (gfd F n S T k).2.1
        · rw [if_pos a2, if_pos (Or.inr (Or.inl a2))]
        rw [if_neg a2]
        by_cases a3 : mrS F n S (11 - k) = (gfd F n S T k).2.1
        · rw [if_pos a3]
          by_cases a4 : smS F n S (11 - k) < (gfd F n S T k).2.2
          · rw [if_pos a4, if_pos (Or.inr (Or.inr ⟨a3, a4⟩))]
          · rw [if_neg a4, if_neg (fun z => by rcases z with z | z | z; exact a1 z; exact a2 z; exact a4 z.2)]
        · rw [if_neg a3, if_neg (fun z => by rcases z with z | z | z; exact a1 z; exact a2 z; exact a3 z.1)]
      · rw [if_neg cU, if_pos rfl, if_neg (show ¬ (bt T (11 - k) && usf F n S (11 - k)) = true by simp [cU])]
    · rw [if_neg cT, if_pos rfl, if_neg (show ¬ (bt T (11 - k) && usf F n S (11 - k)) = true by simp [cT])]
theorem rgreedyBit_ok {σ : Mem} {A : Ab} (h : RInv σ A) {S : Int32} (hS : isS A.n S) (T : Int32) : fX11_greedyBit σ S T = some (gB A.F A.n S T, σ) := by
  have hn := h.forms.2.1
  unfold fX11_greedyBit
  refine loopEc (fun k => nI (12 - k) - 1) (fX11_greedyBit_L12 (fun (m10 : Mem) (x11 : Int32) => some (x11, m10)) S T) (fX11_greedyBit_L12_b (fun (m10 : Mem) (x11 : Int32) => some (x11, m10)) S T) (fun _ _ _ _ _ _ => rfl) 12
    (fun k m t u v => m = σ ∧ t = (gfd A.F A.n S T k).1 ∧ u = (gfd A.F A.n S T k).2.1 ∧ v = (gfd A.F A.n S T k).2.2)
    (fun r => r = some (gB A.F A.n S T, σ)) ?_ ?_ 5000 0 σ (-1) 0 0 (by omega) (by omega) ⟨rfl, rfl, rfl, rfl⟩
  · rintro m t u v rec ⟨rfl, rfl, rfl, rfl⟩
    unfold fX11_greedyBit_L12_b
    rw [if_pos (by decide)]
    rfl
  · rintro k m t u v rec hk ⟨rfl, rfl, rfl, rfl⟩
    right
    unfold fX11_greedyBit_L12_b
    have hb : 11 - k < 12 := by omega
    have s0 := side_ok h hS hb false
    have s1 := side_ok h hS hb true
    simp only [Bool.false_eq_true, if_false, if_true] at s0 s1
    have hneg : (gfd A.F A.n S T k).1 < 0 ↔ (gfd A.F A.n S T k).1 = -1 := neg1_iff (by
      rcases gfd_1 A.F A.n S T k with z | ⟨b, z1, z2, _⟩
      · exact Or.inl z
      · exact Or.inr ⟨b, z1, z2, trivial⟩)
    rw [dn12 hk, if_neg (nI_pos (by omega)), dn12' hk, has_ok m T (show 11 - k < 32 by omega), cl_s, ruse_ok h S hb]
    simp only [lt_e, cl_s, s0, s1, size_ok]
    refine ⟨m, _, _, _, ⟨rfl, rfl, rfl, rfl⟩, ?_⟩
    rw [gfd, gst]
    by_cases cT : bt T (11 - k) = true
    · rw [if_pos cT, if_neg (by decide)]
      by_cases cU : usf A.F A.n S (11 - k) = true
      · rw [if_pos cU, if_neg (by decide), if_pos (show (bt T (11 - k) && usf A.F A.n S (11 - k)) = true by simp [cT, cU])]
        have key : ∀ v28 : Int32, v28 = mrS A.F A.n S (11 - k) → (if (gfd A.F A.n S T k).1 < 0 then rec m (nI (11 - k)) v28 (smS A.F A.n S (11 - k)) (nI (12 - (k + 1)) - 1) else if v28 < (gfd A.F A.n S T k).2.1 then rec m (nI (11 - k)) v28 (smS A.F A.n S (11 - k)) (nI (12 - (k + 1)) - 1) else if v28 = (gfd A.F A.n S T k).2.1 then (if smS A.F A.n S (11 - k) < (gfd A.F A.n S T k).2.2 then rec m (nI (11 - k)) v28 (smS A.F A.n S (11 - k)) (nI (12 - (k + 1)) - 1) else rec m (gfd A.F A.n S T k).1 (gfd A.F A.n S T k).2.1 (gfd A.F A.n S T k).2.2 (nI (12 - (k + 1)) - 1)) else rec m (gfd A.F A.n S T k).1 (gfd A.F A.n S T k).2.1 (gfd A.F A.n S T k).2.2 (nI (12 - (k + 1)) - 1)) = rec m (if (gfd A.F A.n S T k).1 = -1 ∨ mrS A.F A.n S (11 - k) < (gfd A.F A.n S T k).2.1 ∨ (mrS A.F A.n S (11 - k) = (gfd A.F A.n S T k).2.1 ∧ smS A.F A.n S (11 - k) < (gfd A.F A.n S T k).2.2) then (nI (11 - k), mrS A.F A.n S (11 - k), smS A.F A.n S (11 - k)) else gfd A.F A.n S T k).1 (if (gfd A.F A.n S T k).1 = -1 ∨ mrS A.F A.n S (11 - k) < (gfd A.F A.n S T k).2.1 ∨ (mrS A.F A.n S (11 - k) = (gfd A.F A.n S T k).2.1 ∧ smS A.F A.n S (11 - k) < (gfd A.F A.n S T k).2.2) then (nI (11 - k), mrS A.F A.n S (11 - k), smS A.F A.n S (11 - k)) else gfd A.F A.n S T k).2.1 (if (gfd A.F A.n S T k).1 = -1 ∨ mrS A.F A.n S (11 - k) < (gfd A.F A.n S T k).2.1 ∨ (mrS A.F A.n S (11 - k) = (gfd A.F A.n S T k).2.1 ∧ smS A.F A.n S (11 - k) < (gfd A.F A.n S T k).2.2) then (nI (11 - k), mrS A.F A.n S (11 - k), smS A.F A.n S (11 - k)) else gfd A.F A.n S T k).2.2 (nI (12 - (k + 1)) - 1) := by
          rintro v28 rfl
          by_cases a1 : (gfd A.F A.n S T k).1 = -1
          · rw [if_pos (hneg.mpr a1), if_pos (Or.inl a1)]
          rw [if_neg (fun z => a1 (hneg.mp z))]
          by_cases a2 : mrS A.F A.n S (11 - k) < (gfd A.F A.n S T k).2.1
          · rw [if_pos a2, if_pos (Or.inr (Or.inl a2))]
          rw [if_neg a2]
          by_cases a3 : mrS A.F A.n S (11 - k) = (gfd A.F A.n S T k).2.1
          · rw [if_pos a3]
            by_cases a4 : smS A.F A.n S (11 - k) < (gfd A.F A.n S T k).2.2
            · rw [if_pos a4, if_pos (Or.inr (Or.inr ⟨a3, a4⟩))]
            · rw [if_neg a4, if_neg (fun z => by rcases z with z | z | z; exact a1 z; exact a2 z; exact a4 z.2)]
          · rw [if_neg a3, if_neg (fun z => by rcases z with z | z | z; exact a1 z; exact a2 z; exact a3 z.1)]
        have him := imax_alt (szS (sdS A.F A.n S (11 - k) false)) (szS (sdS A.F A.n S (11 - k) true))
        by_cases c : szS (sdS A.F A.n S (11 - k) true) < szS (sdS A.F A.n S (11 - k) false)
        · rw [if_pos c] at him
          rw [if_pos (show nI (cnt (bt (sdS A.F A.n S (11 - k) true)) 32) < nI (cnt (bt (sdS A.F A.n S (11 - k) false)) 32) from c)]
          exact key _ him
        · rw [if_neg c] at him
          rw [if_neg (show ¬ nI (cnt (bt (sdS A.F A.n S (11 - k) true)) 32) < nI (cnt (bt (sdS A.F A.n S (11 - k) false)) 32) from c)]
          exact key _ him
      · rw [if_neg cU, if_pos rfl, if_neg (show ¬ (bt T (11 - k) && usf A.F A.n S (11 - k)) = true by simp [cU])]
    · rw [if_neg cT, if_pos rfl, if_neg (show ¬ (bt T (11 - k) && usf A.F A.n S (11 - k)) = true by simp [cT])]
def clr (T : Int32) (b : Nat) : Int32 := T &&& ((1 <<< (nI b &&& 31)) ^^^ (-1))
theorem clr_bt {T : Int32} {b : Nat} (hb : b < 32) (x : Nat) : bt (clr T b) x = (bt T x && !decide (x = b)) := by
  unfold clr
  rw [bt_and, bt_not, bt_one hb]
  by_cases h : x < 32
  · simp [h]
  · rw [bt_big (by omega)]; simp
theorem cnt_clr {T : Int32} {b : Nat} (hb : b < 32) (h : bt T b = true) : cnt (bt T) 32 = cnt (bt (clr T b)) 32 + 1 := by
  rw [cnt_ins (p := bt (clr T b)) (q := bt T) (l := b) (by rw [clr_bt hb]; simp) (fun x => by
    rw [clr_bt hb]
    by_cases e : x = b
    · subst e; simp [h]
    · simp [e]), if_pos hb]
theorem gB_0 {F : Nat → Fm} {n : Nat} {S T : Int32} (h : cnt (bt T) 32 = 0) : gB F n S T = -1 := by
  have hT : ∀ b, b < 12 → bt T b = false := by
    intro b hb
    cases hq : bt T b with
    | false => rfl
    | true =>
      have := cnt_pos.mpr ⟨b, show b < 32 by omega, hq⟩
      omega
  rcases gfd_1 F n S T 12 with z | ⟨b, z1, _, z3, _⟩
  · exact z
  · rw [hT b z1] at z3; cases z3
theorem gB_or (F : Nat → Fm) (n : Nat) (S T : Int32) : gB F n S T = -1 ∨ ∃ b, b < 12 ∧ gB F n S T = nI b ∧ bt T b = true := by
  rcases gfd_1 F n S T 12 with z | ⟨b, z1, z2, z3, _⟩
  · exact Or.inl z
  · exact Or.inr ⟨b, z1, z2, z3⟩
/-- tests, the longest way, the fullest leaf -/
def trG (F : Nat → Fm) (n : Nat) : Nat → Int32 → Int32 → Nat → G3 → G3
  | 0, _, _, _, a => a
  | k + 1, S, T, d, a => if gB F n S T = -1 then (a.1, imax a.2.1 (nI d), imax a.2.2 (szS S)) else
    trG F n k (sdS F n S (ix (gB F n S T)) true) (clr T (ix (gB F n S T))) (d + 1) (trG F n k (sdS F n S (ix (gB F n S T)) false) (clr T (ix (gB F n S T))) (d + 1) (a.1 + 1, a.2))
def C3 (σ : Mem) : G3 := (σ 287 3, σ 287 4, σ 287 5)
def R3 (σ : Mem) : G3 := (σ 362 31, σ 362 32, σ 362 33)
theorem grow_ok {n : Nat} {F : Nat → Fm} (hn : n ≤ 12) : ∀ (k fuel : Nat) (S T : Int32) (d : Nat) (m : Mem), cnt (bt T) 32 ≤ k → d + k ≤ 6 → k < fuel → CT m F n → isS n S →
    ∃ m', fX8_grow fuel m T S (nI d) = some ((), m') ∧ C3 m' = trG F n (k + 1) S T d (C3 m) ∧ (∀ q, q ≠ 287 → m' q = m q) ∧ m' 287 6 = m 287 6 := by
  intro k
  induction k with
  | zero =>
    intro fuel S T d m hT hd hf hC hS
    cases fuel with
    | zero => omega
    | succ fuel =>
      have hg := gB_0 (F := F) (n := n) (S := S) (T := T) (by omega)
      have hw := isS_isW hn hS
      show ∃ m', fX8_grow_b (fX8_grow fuel) m T S (nI d) = _ ∧ _
      unfold fX8_grow_b
      simp only [lt_e]
      have leaf : ∃ m', (cl (fJ6_bitCount_0f7a4 (sto m 287 4 (imax (m 287 4) (nI d))) S) fun r5 m4 => some ((), sto m4 287 5 (imax (sto m 287 4 (imax (m 287 4) (nI d)) 287 5) r5))) = some ((), m') ∧ C3 m' = trG F n 1 S T d (C3 m) ∧ (∀ q, q ≠ 287 → m' q = m q) ∧ m' 287 6 = m 287 6 := by
        rw [bitCount_ok _ hw, cl_s, trG, if_pos hg, sto_nj (by decide)]
        refine ⟨_, rfl, ?_, fun q hq => by rw [sto_ne hq, sto_ne hq], by rw [sto_nj (by decide), sto_nj (by decide)]⟩
        unfold C3
        rw [sto_nj (by decide), sto_nj (by decide), sto_nj (by decide), sto_eq, sto_eq]; rfl
      by_cases c : d < 6
      · rw [if_pos (show nI d < 6 from nI_lt (b := 6) c (by decide)), cgreedyBit_ok hn hC hS, cl_s, hg, if_pos rfl]
        exact leaf
      · rw [if_neg (show ¬ nI d < 6 from nI_nlt (b := 6) (by omega) (by omega)), if_pos trivial]
        exact leaf
  | succ k ih =>
    intro fuel S T d m hT hd hf hC hS
    cases fuel with
    | zero => omega
    | succ fuel =>
      have hw := isS_isW hn hS
      show ∃ m', fX8_grow_b (fX8_grow fuel) m T S (nI d) = _ ∧ _
      unfold fX8_grow_b
      simp only [lt_e]
      rw [if_pos (show nI d < 6 from nI_lt (b := 6) (by omega) (by decide)), cgreedyBit_ok hn hC hS, cl_s]
      rcases gB_or F n S T with hg | ⟨b, hb, hg, hbt⟩
      · rw [hg, if_pos rfl, bitCount_ok _ hw, cl_s, trG, if_pos hg, sto_nj (by decide)]
        refine ⟨_, rfl, ?_, fun q hq => by rw [sto_ne hq, sto_ne hq], by rw [sto_nj (by decide), sto_nj (by decide)]⟩
        unfold C3
        rw [sto_nj (by decide), sto_nj (by decide), sto_nj (by decide), sto_eq, sto_eq]; rfl
      · have hne : ¬ nI b = -1 := fun z => absurd (nI_pos' (show b < 2 ^ 31 by omega)) (by rw [z]; decide)
        have hB := inb_nI hb (show 12 < 2 ^ 31 by decide)
        have hcl := cnt_clr (show b < 32 by omega) hbt
        rw [hg, if_neg hne, ck_t hB, ix_nI (by omega), trG, if_neg (by rw [hg]; exact hne), hg, ix_nI (by omega), sto_ne (show (288 : Nat) ≠ 287 by decide), (hC b hb).1, nI_1]
        have hC1 : CT (sto m 287 3 (m 287 3 + 1)) F n := fun c hc => by rw [sto_ne (by decide), sto_ne (by decide)]; exact hC c hc
        obtain ⟨m1, a1, a2, a3, a4⟩ := ih fuel (sdS F n S b false) (clr T b) (d + 1) (sto m 287 3 (m 287 3 + 1)) (by omega) (by omega) (by omega) hC1 (isS_sd hS b false)
        rw [show fX8_grow fuel (sto m 287 3 (m 287 3 + 1)) (T &&& (1 <<< (nI b &&& 31) ^^^ -1)) (S &&& (onesS F n b ^^^ -1)) (nI (d + 1)) = some ((), m1) from a1, cl_s]
        have hC2 : CT m1 F n := fun c hc => by rw [a3 288 (by decide), a3 289 (by decide)]; exact hC1 c hc
        rw [ck_t hB, (hC2 b hb).2]
        obtain ⟨m2, b1, b2, b3, b4⟩ := ih fuel (sdS F n S b true) (clr T b) (d + 1) m1 (by omega) (by omega) (by omega) hC2 (isS_sd hS b true)
        rw [show fX8_grow fuel m1 (T &&& (1 <<< (nI b &&& 31) ^^^ -1)) (S &&& (zerosS F n b ^^^ -1)) (nI (d + 1)) = some ((), m2) from b1, cl_s]
        refine ⟨m2, rfl, ?_, fun q hq => by rw [b3 q hq, a3 q hq, sto_ne hq], by rw [b4, a4, sto_nj (by decide)]⟩
        rw [b2, a2]
        have : C3 (sto m 287 3 (m 287 3 + 1)) = ((C3 m).1 + 1, (C3 m).2) := by
          unfold C3
          rw [sto_eq, sto_nj (by decide), sto_nj (by decide)]
        rw [this]
theorem goes_ok {A : Ab} : ∀ (k fuel : Nat) (S T : Int32) (d : Nat) (m : Mem), cnt (bt T) 32 ≤ k → d + k ≤ 6 → k < fuel → RInv m A → isS A.n S →
    ∃ m', fX11_goesGreedy fuel m S T (nI d) = some ((), m') ∧ R3 m' = trG A.F A.n (k + 1) S T d (R3 m) ∧ (∀ q, q ≠ 362 → m' q = m q) ∧ RInv m' A := by
  intro k
  induction k with
  | zero =>
    intro fuel S T d m hT hd hf hR hS
    cases fuel with
    | zero => omega
    | succ fuel =>
      have hg := gB_0 (F := A.F) (n := A.n) (S := S) (T := T) (by omega)
      show ∃ m', fX11_goesGreedy_b (fX11_goesGreedy fuel) m S T (nI d) = _ ∧ _
      unfold fX11_goesGreedy_b
      simp only [lt_e]
      rw [rgreedyBit_ok hR hS, cl_s, hg, if_pos (by decide), trG, if_pos hg]
      have key : ∀ v : Int32, v = imax (m 362 32) (nI d) → ∃ m', (cl (fX11_size (sto m 362 32 v) S) fun r6 m5 => if (m5 362 33) < r6 then cl (fX11_size m5 S) fun r11 m10 => some ((), sto m10 362 33 r11) else some ((), sto m5 362 33 (m5 362 33))) = some ((), m') ∧ R3 m' = ((R3 m).1, imax (R3 m).2.1 (nI d), imax (R3 m).2.2 (szS S)) ∧ (∀ q, q ≠ 362 → m' q = m q) ∧ RInv m' A := by
        rintro v rfl
        rw [size_ok, cl_s, size_ok, cl_s, sto_nj (by decide)]
        have fin : ∀ u : Int32, u = imax (m 362 33) (szS S) → R3 (sto (sto m 362 32 (imax (m 362 32) (nI d))) 362 33 u) = ((R3 m).1, imax (R3 m).2.1 (nI d), imax (R3 m).2.2 (szS S)) ∧ (∀ q, q ≠ 362 → sto (sto m 362 32 (imax (m 362 32) (nI d))) 362 33 u q = m q) ∧ RInv (sto (sto m 362 32 (imax (m 362 32) (nI d))) 362 33 u) A := by
          rintro u rfl
          refine ⟨?_, fun q hq => by rw [sto_ne hq, sto_ne hq], hR.congr (fun q a b => by rw [sto_ne (by omega), sto_ne (by omega)]) (fun j hj => by rw [sto_nj (by omega), sto_nj (by omega)])⟩
          unfold R3
          rw [sto_nj (by decide), sto_nj (by decide), sto_nj (by decide), sto_eq, sto_eq]
        by_cases c : m 362 33 < szS S
        · rw [if_pos (show m 362 33 < nI (cnt (bt S) 32) from c)]
          exact ⟨_, rfl, fin _ (by unfold imax; rw [if_pos c]; rfl)⟩
        · rw [if_neg (show ¬ m 362 33 < nI (cnt (bt S) 32) from c)]
          exact ⟨_, rfl, fin _ (by unfold imax; rw [if_neg c])⟩
      by_cases c : m 362 32 < nI d
      · rw [if_pos c]
        exact key _ (by unfold imax; rw [if_pos c])
      · rw [if_neg c]
        exact key _ (by unfold imax; rw [if_neg c])
  | succ k ih =>
    intro fuel S T d m hT hd hf hR hS
    cases fuel with
    | zero => omega
    | succ fuel =>
      show ∃ m', fX11_goesGreedy_b (fX11_goesGreedy fuel) m S T (nI d) = _ ∧ _
      unfold fX11_goesGreedy_b
      simp only [lt_e]
      rw [rgreedyBit_ok hR hS, cl_s]
      rcases gB_or A.F A.n S T with hg | ⟨b, hb, hg, hbt⟩
      · rw [hg, if_pos (by decide), trG, if_pos hg]
        have key : ∀ v : Int32, v = imax (m 362 32) (nI d) → ∃ m', (cl (fX11_size (sto m 362 32 v) S) fun r6 m5 => if (m5 362 33) < r6 then cl (fX11_size m5 S) fun r11 m10 => some ((), sto m10 362 33 r11) else some ((), sto m5 362 33 (m5 362 33))) = some ((), m') ∧ R3 m' = ((R3 m).1, imax (R3 m).2.1 (nI d), imax (R3 m).2.2 (szS S)) ∧ (∀ q, q ≠ 362 → m' q = m q) ∧ RInv m' A := by
          rintro v rfl
          rw [size_ok, cl_s, size_ok, cl_s, sto_nj (by decide)]
          have fin : ∀ u : Int32, u = imax (m 362 33) (szS S) → R3 (sto (sto m 362 32 (imax (m 362 32) (nI d))) 362 33 u) = ((R3 m).1, imax (R3 m).2.1 (nI d), imax (R3 m).2.2 (szS S)) ∧ (∀ q, q ≠ 362 → sto (sto m 362 32 (imax (m 362 32) (nI d))) 362 33 u q = m q) ∧ RInv (sto (sto m 362 32 (imax (m 362 32) (nI d))) 362 33 u) A := by
            rintro u rfl
            refine ⟨?_, fun q hq => by rw [sto_ne hq, sto_ne hq], hR.congr (fun q a b => by rw [sto_ne (by omega), sto_ne (by omega)]) (fun j hj => by rw [sto_nj (by omega), sto_nj (by omega)])⟩
            unfold R3
            rw [sto_nj (by decide), sto_nj (by decide), sto_nj (by decide), sto_eq, sto_eq]
          by_cases c : m 362 33 < szS S
          · rw [if_pos (show m 362 33 < nI (cnt (bt S) 32) from c)]
            exact ⟨_, rfl, fin _ (by unfold imax; rw [if_pos c]; rfl)⟩
          · rw [if_neg (show ¬ m 362 33 < nI (cnt (bt S) 32) from c)]
            exact ⟨_, rfl, fin _ (by unfold imax; rw [if_neg c])⟩
        by_cases c : m 362 32 < nI d
        · rw [if_pos c]
          exact key _ (by unfold imax; rw [if_pos c])
        · rw [if_neg c]
          exact key _ (by unfold imax; rw [if_neg c])
      · have hne : ¬ nI b = -1 := fun z => absurd (nI_pos' (show b < 2 ^ 31 by omega)) (by rw [z]; decide)
        have hcl := cnt_clr (show b < 32 by omega) hbt
        have hR1 : RInv (sto m 362 31 (m 362 31 + 1)) A := hR.congr (fun q a b => sto_ne (by omega)) (fun j hj => sto_nj (by omega))
        have s0 := side_ok hR1 hS hb false
        simp only [Bool.false_eq_true, if_false] at s0
        rw [hg, if_neg (nI_pos (by omega)), s0, cl_s, nI_1, trG, if_neg (by rw [hg]; exact hne), hg, ix_nI (by omega)]
        obtain ⟨m1, a1, a2, a3, a4⟩ := ih fuel (sdS A.F A.n S b false) (clr T b) (d + 1) (sto m 362 31 (m 362 31 + 1)) (by omega) (by omega) (by omega) hR1 (isS_sd hS b false)
        rw [show fX11_goesGreedy fuel (sto m 362 31 (m 362 31 + 1)) (sdS A.F A.n S b false) (T &&& (1 <<< (nI b &&& 31) ^^^ -1)) (nI (d + 1)) = some ((), m1) from a1, cl_s]
        have s1 := side_ok a4 hS hb true
        simp only [if_true] at s1
        rw [s1, cl_s]
        obtain ⟨m2, b1, b2, b3, b4⟩ := ih fuel (sdS A.F A.n S b true) (clr T b) (d + 1) m1 (by omega) (by omega) (by omega) a4 (isS_sd hS b true)
        rw [show fX11_goesGreedy fuel m1 (sdS A.F A.n S b true) (T &&& (1 <<< (nI b &&& 31) ^^^ -1)) (nI (d + 1)) = some ((), m2) from b1, cl_s]
        refine ⟨m2, rfl, ?_, fun q hq => by rw [b3 q hq, a3 q hq, sto_ne hq], b4⟩
        rw [b2, a2]
        have : R3 (sto m 362 31 (m 362 31 + 1)) = ((R3 m).1 + 1, (R3 m).2) := by
          unfold R3
          rw [sto_eq, sto_nj (by decide), sto_nj (by decide)]
        rw [this]
