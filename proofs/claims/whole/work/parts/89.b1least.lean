/-! ===== least trees: what they are; the reference ===== -/
def okB (F : Nat → Fm) (n : Nat) (S T : Int32) (b : Nat) : Bool := bt T b && usf F n S b
def mnF (ok : Nat → Bool) (v : Nat → Nat) : Nat → Option Nat
  | 0 => none
  | j + 1 => if ok j = true then (match mnF ok v j with
    | none => some (v j)
    | some x => if v j < x then some (v j) else some x) else mnF ok v j
theorem mnF_congr {ok : Nat → Bool} {v w : Nat → Nat} : ∀ {n : Nat}, (∀ j, j < n → ok j = true → v j = w j) → mnF ok v n = mnF ok w n
  | 0, _ => rfl
  | n + 1, h => by
    rw [mnF, mnF, mnF_congr (n := n) (fun j hj => h j (by omega))]
    by_cases e : ok n = true
    · rw [if_pos e, if_pos e, h n (by omega) e]
    · rw [if_neg e, if_neg e]
theorem mnF_none {ok : Nat → Bool} {v : Nat → Nat} : ∀ {n : Nat}, mnF ok v n = none ↔ ∀ j, j < n → ok j = false
  | 0 => ⟨fun _ j hj => by omega, fun _ => rfl⟩
  | n + 1 => by
    have ih := mnF_none (ok := ok) (v := v) (n := n)
    rw [mnF]
    by_cases e : ok n = true
    · rw [if_pos e]
      constructor
      · intro h
        cases hm : mnF ok v n with
        | none => rw [hm] at h; cases h
        | some x => rw [hm] at h; simp only at h; split at h <;> cases h
      · intro h
        rw [h n (by omega)] at e; cases e
    · rw [if_neg e, ih]
      constructor
      · intro h j hj
        by_cases z : j = n
        · subst z; simpa using e
        · exact h j (by omega)
      · intro h j hj; exact h j (by omega)
theorem mnF_some {ok : Nat → Bool} {v : Nat → Nat} : ∀ {n x : Nat}, mnF ok v n = some x → (∃ j, j < n ∧ ok j = true ∧ v j = x) ∧ ∀ j, j < n → ok j = true → x ≤ v j
  | 0, x, h => by cases h
  | n + 1, x, h => by
    rw [mnF] at h
    by_cases e : ok n = true
    · rw [if_pos e] at h
      cases hm : mnF ok v n with
      | none =>
        rw [hm] at h
        simp only [Option.some.injEq] at h
        subst h
        have hn := mnF_none.mp hm
        refine ⟨⟨n, by omega, e, rfl⟩, fun j hj hok => ?_⟩
        by_cases z : j = n
        · subst z; exact Nat.le_refl _
        · rw [hn j (by omega)] at hok; cases hok
      | some y =>
        rw [hm] at h
        obtain ⟨⟨i, h1, h2, h3⟩, h4⟩ := mnF_some hm
        simp only at h
        by_cases c : v n < y
        · rw [if_pos c] at h
          cases h
          refine ⟨⟨n, by omega, e, rfl⟩, fun j hj hok => ?_⟩
          by_cases z : j = n
          · subst z; exact Nat.le_refl _
          · have := h4 j (by omega) hok; omega
        · rw [if_neg c] at h
          cases h
          refine ⟨⟨i, by omega, h2, h3⟩, fun j hj hok => ?_⟩
          by_cases z : j = n
          · subst z; omega
          · exact h4 j (by omega) hok
    · rw [if_neg e] at h
      obtain ⟨⟨i, h1, h2, h3⟩, h4⟩ := mnF_some h
      refine ⟨⟨i, by omega, h2, h3⟩, fun j hj hok => ?_⟩
      by_cases z : j = n
      · subst z; exact absurd hok e
      · exact h4 j (by omega) hok
def ls (F : Nat → Fm) (n : Nat) : Nat → Int32 → Int32 → Nat
  | 0, _, _ => 0
  | k + 1, S, T => (mnF (okB F n S T) (fun b => 1 + ls F n k (sdS F n S b false) (clr T b) + ls F n k (sdS F n S b true) (clr T b)) 12).getD 0
theorem ls_le (F : Nat → Fm) (n : Nat) : ∀ k S T, ls F n k S T + 1 ≤ 2 ^ k
  | 0, _, _ => Nat.le_refl _
  | k + 1, S, T => by
    rw [ls, Nat.pow_succ]
    have hp : 0 < 2 ^ k := Nat.pow_pos (by decide)
    cases h : mnF (okB F n S T) (fun b => 1 + ls F n k (sdS F n S b false) (clr T b) + ls F n k (sdS F n S b true) (clr T b)) 12 with
    | none => simp only [Option.getD_none]; omega
    | some x =>
      obtain ⟨⟨j, _, _, h3⟩, _⟩ := mnF_some h
      have a1 := ls_le F n k (sdS F n S j false) (clr T j)
      have a2 := ls_le F n k (sdS F n S j true) (clr T j)
      simp only [Option.getD_some]
      omega
theorem okB_0 {F : Nat → Fm} {n : Nat} {S T : Int32} (h : cnt (bt T) 32 = 0) {b : Nat} (hb : b < 12) : okB F n S T b = false := by
  unfold okB
  cases hq : bt T b with
  | false => rfl
  | true =>
    have := cnt_pos.mpr ⟨b, show b < 32 by omega, hq⟩
    omega
theorem ls_stab (F : Nat → Fm) (n : Nat) : ∀ k S T, cnt (bt T) 32 ≤ k → ls F n (k + 1) S T = ls F n (k + 2) S T
  | 0, S, T, h => by
    rw [ls, ls, mnF_none.mpr (fun j hj => okB_0 (by omega) hj), mnF_none.mpr (fun j hj => okB_0 (by omega) hj)]
  | k + 1, S, T, h => by
    rw [ls, ls]
    congr 1
    refine mnF_congr (fun j hj hok => ?_)
    have hbt : bt T j = true := by unfold okB at hok; simp only [Bool.and_eq_true] at hok; exact hok.1
    have hc := cnt_clr (show j < 32 by omega) hbt
    rw [ls_stab F n k _ _ (by omega), ls_stab F n k _ _ (by omega)]
def lsF (F : Nat → Fm) (n : Nat) (S T : Int32) : Nat := ls F n 7 S T
def lvF (F : Nat → Fm) (n : Nat) (S T : Int32) (b : Nat) : Nat := 1 + lsF F n (sdS F n S b false) (clr T b) + lsF F n (sdS F n S b true) (clr T b)
theorem lsF_lt (F : Nat → Fm) (n : Nat) (S T : Int32) : lsF F n S T < 128 := by have := ls_le F n 7 S T; unfold lsF; omega
theorem lvF_lt (F : Nat → Fm) (n : Nat) (S T : Int32) (b : Nat) : lvF F n S T b < 1000 := by
  unfold lvF
  have := lsF_lt F n (sdS F n S b false) (clr T b)
  have := lsF_lt F n (sdS F n S b true) (clr T b)
  omega
theorem ls_rec {F : Nat → Fm} {n k : Nat} {S T : Int32} (h : cnt (bt T) 32 ≤ k + 1) : ls F n (k + 2) S T = (mnF (okB F n S T) (fun b => 1 + ls F n (k + 2) (sdS F n S b false) (clr T b) + ls F n (k + 2) (sdS F n S b true) (clr T b)) 12).getD 0 := by
  have h1 : ls F n (k + 1 + 1) S T = (mnF (okB F n S T) (fun b => 1 + ls F n (k + 1) (sdS F n S b false) (clr T b) + ls F n (k + 1) (sdS F n S b true) (clr T b)) 12).getD 0 := by rw [ls]
  rw [show k + 2 = k + 1 + 1 from rfl, h1]
  rw [mnF_congr (w := fun b => 1 + ls F n (k + 1 + 1) (sdS F n S b false) (clr T b) + ls F n (k + 1 + 1) (sdS F n S b true) (clr T b)) (fun j hj hok => ?_)]
  have hbt : bt T j = true := by unfold okB at hok; simp only [Bool.and_eq_true] at hok; exact hok.1
  have hc := cnt_clr (show j < 32 by omega) hbt
  show 1 + ls F n (k + 1) _ _ + ls F n (k + 1) _ _ = 1 + ls F n (k + 2) _ _ + ls F n (k + 2) _ _
  rw [ls_stab F n k _ _ (by omega), ls_stab F n k _ _ (by omega)]
theorem lsF_rec {F : Nat → Fm} {n : Nat} {S T : Int32} (h : cnt (bt T) 32 ≤ 6) : lsF F n S T = (mnF (okB F n S T) (lvF F n S T) 12).getD 0 :=
  ls_rec (k := 5) h
def srch (p : Nat → Bool) : Nat → Option Nat
  | 0 => none
  | k + 1 => if p k = true then some k else srch p k
theorem srch_some {p : Nat → Bool} {c : Nat} (hp : p c = true) : ∀ {n : Nat}, c < n → (∀ b, c < b → b < n → p b = false) → srch p n = some c
  | 0, h, _ => by omega
  | n + 1, h, h2 => by
    rw [srch]
    by_cases e : c = n
    · subst e; rw [if_pos hp]
    · rw [if_neg (by rw [h2 n (by omega) (by omega)]; decide)]
      exact srch_some hp (by omega) (fun b x y => h2 b x (by omega))
theorem srch_none {p : Nat → Bool} : ∀ {n : Nat}, (∀ b, b < n → p b = false) → srch p n = none
  | 0, _ => rfl
  | n + 1, h => by
    rw [srch, if_neg (by rw [h n (by omega)]; decide)]
    exact srch_none (fun b hb => h b (by omega))
def fstB (F : Nat → Fm) (n : Nat) (S T : Int32) : Option Nat := srch (fun b => okB F n S T b && decide (lvF F n S T b = lsF F n S T)) 12
def gLeast (a b : Int32) (A : Ab) : Int32 × Ab := if isTs a ∧ (0 ≤ b ∧ b ≤ 1) then (if b = 0 then nI (lsF A.F A.n (allS A.n) a) else ansO (fstB A.F A.n (allS A.n) a), A) else bad A
/-- the reference's -/
theorem leastBy_ok {σ : Mem} {A : Ab} (h : RInv σ A) (self : Mem → Int32 → Int32 → Option (Int32 × Mem)) {S T : Int32} (hS : isS A.n S) {b : Nat} (hb : b < 12) (hself : ∀ S', isS A.n S' → self σ S' (clr T b) = some (nI (lsF A.F A.n S' (clr T b)), σ)) :
    fX11_leastBy_b self σ S T (nI b) = some (nI (lvF A.F A.n S T b), σ) := by
  unfold fX11_leastBy_b
  have s0 := side_ok h hS hb false
  have s1 := side_ok h hS hb true
  simp only [Bool.false_eq_true, if_false, if_true] at s0 s1
  rw [lt_e, s0, cl_s, show T &&& ((1 <<< (nI b &&& 31)) ^^^ -1) = clr T b from rfl, hself _ (isS_sd hS b false), cl_s, s1, cl_s, hself _ (isS_sd hS b true), cl_s, show (1 : Int32) = nI 1 from rfl, nI_add, nI_add]
  rfl
theorem leastTests_ok {σ : Mem} {A : Ab} (h : RInv σ A) : ∀ (k fuel : Nat) (S T : Int32), cnt (bt T) 32 ≤ k → k ≤ 6 → k < fuel → isS A.n S → fX11_leastTests fuel σ S T = some (nI (lsF A.F A.n S T), σ) := by
  intro k
  induction k with
  | zero =>
    intro fuel S T hT h6 hf hS
    cases fuel with
    | zero => omega
    | succ fuel =>
      show fX11_leastTests_b (fX11_leastBy_b (fX11_leastTests fuel)) σ S T = _
      unfold fX11_leastTests_b
      rw [lsF_rec (by omega), mnF_none.mpr (fun j hj => okB_0 (by omega) hj)]
      refine loopA (fX11_leastTests_L5 (fX11_leastBy_b (fX11_leastTests fuel)) (fun (m8 : Mem) (x9 : Int32) => if x9 < (0 : Int32) then some ((0 : Int32), m8) else some (x9, m8)) S T) (fX11_leastTests_L5_b (fX11_leastBy_b (fX11_leastTests fuel)) (fun (m8 : Mem) (x9 : Int32) => if x9 < (0 : Int32) then some ((0 : Int32), m8) else some (x9, m8)) S T) (fun _ _ _ _ => rfl) 12
        (fun j m t => m = σ ∧ t = -1)
        (fun r => r = some (nI (Option.getD none 0), σ)) ?_ ?_ 5000 0 σ (-1) (by omega) (by omega) ⟨rfl, rfl⟩
      · rintro m t rec ⟨rfl, rfl⟩
        unfold fX11_leastTests_L5_b
        rw [if_neg (by decide)]
        rfl
      · rintro j m t rec hj ⟨rfl, rfl⟩
        right
        unfold fX11_leastTests_L5_b
        have hb : bt T j = false := by
          cases hq : bt T j with
          | false => rfl
          | true => have := cnt_pos.mpr ⟨j, show j < 32 by omega, hq⟩; omega
        rw [if_pos (show nI j < 12 from nI_lt (b := 12) hj (by decide)), has_ok m T (show j < 32 by omega), cl_s, hb, lt_e, nI_1, if_pos (by decide)]
        exact ⟨m, _, ⟨rfl, rfl⟩, rfl⟩
  | succ k ih =>
    intro fuel S T hT h6 hf hS
    cases fuel with
    | zero => omega
    | succ fuel =>
      show fX11_leastTests_b (fX11_leastBy_b (fX11_leastTests fuel)) σ S T = _
      unfold fX11_leastTests_b
      rw [lsF_rec (by omega)]
      refine loopA (fX11_leastTests_L5 (fX11_leastBy_b (fX11_leastTests fuel)) (fun (m8 : Mem) (x9 : Int32) => if x9 < (0 : Int32) then some ((0 : Int32), m8) else some (x9, m8)) S T) (fX11_leastTests_L5_b (fX11_leastBy_b (fX11_leastTests fuel)) (fun (m8 : Mem) (x9 : Int32) => if x9 < (0 : Int32) then some ((0 : Int32), m8) else some (x9, m8)) S T) (fun _ _ _ _ => rfl) 12
        (fun j m t => m = σ ∧ t = ansO (mnF (okB A.F A.n S T) (lvF A.F A.n S T) j))
        (fun r => r = some (nI ((mnF (okB A.F A.n S T) (lvF A.F A.n S T) 12).getD 0), σ)) ?_ ?_ 5000 0 σ (-1) (by omega) (by omega) ⟨rfl, rfl⟩
      · rintro m t rec ⟨rfl, rfl⟩
        unfold fX11_leastTests_L5_b
        rw [if_neg (by decide)]
        cases hm : mnF (okB A.F A.n S T) (lvF A.F A.n S T) 12 with
        | none => rfl
        | some x =>
          obtain ⟨⟨j, _, _, h3⟩, _⟩ := mnF_some hm
          have := lvF_lt A.F A.n S T j
          show (if nI x < 0 then _ else _) = _
          rw [if_neg (nI_pos (by omega))]
          rfl
      · rintro j m t rec hj ⟨rfl, rfl⟩
        right
        unfold fX11_leastTests_L5_b
        rw [if_pos (show nI j < 12 from nI_lt (b := 12) hj (by decide)), has_ok m T (show j < 32 by omega), cl_s, lt_e, nI_1]
        refine ⟨m, _, ⟨rfl, rfl⟩, ?_⟩
        rw [mnF]
        by_cases cT : bt T j = true
        · have hc := cnt_clr (show j < 32 by omega) cT
          rw [if_pos cT, if_neg (by decide), ruse_ok h S hj, cl_s]
          by_cases cU : usf A.F A.n S j = true
          · rw [if_pos cU, if_neg (by decide), leastBy_ok h (fX11_leastTests fuel) hS hj (fun S' hS' => ih fuel S' (clr T j) (by omega) (by omega) (by omega) hS'), cl_s, if_pos (show okB A.F A.n S T j = true by simp [okB, cT, cU])]
            rw [lt_e, lt_e]
            have hlt := lvF_lt A.F A.n S T j
            cases hm : mnF (okB A.F A.n S T) (lvF A.F A.n S T) j with
            | none => rw [if_pos (show ansO none < 0 by decide)]; rfl
            | some x =>
              obtain ⟨⟨i, _, _, h3⟩, _⟩ := mnF_some hm
              have hltx := lvF_lt A.F A.n S T i
              show (if nI x < 0 then _ else if nI (lvF A.F A.n S T j) < nI x then _ else _) = _
              rw [if_neg (nI_pos (by omega))]
              by_cases c : lvF A.F A.n S T j < x
              · rw [if_pos (nI_lt c (by omega))]
                show rec m (nI (lvF A.F A.n S T j)) (nI (j + 1)) = rec m (ansO (if lvF A.F A.n S T j < x then some (lvF A.F A.n S T j) else some x)) (nI (j + 1))
                rw [if_pos c]; rfl
              · rw [if_neg (nI_nlt (by omega) (by omega))]
                show rec m (ansO (some x)) (nI (j + 1)) = rec m (ansO (if lvF A.F A.n S T j < x then some (lvF A.F A.n S T j) else some x)) (nI (j + 1))
                rw [if_neg c]
          · rw [if_neg cU, if_pos rfl, if_neg (show ¬ okB A.F A.n S T j = true by simp [okB, cU])]
        · rw [if_neg cT, if_pos rfl, if_neg (show ¬ okB A.F A.n S T j = true by simp [okB, cT])]
theorem rs_least (a b : Int32) : RS (fun σ => fX11_least σ a b) (gLeast a b) := by
  intro σ A h
  show ∃ σ', fX11_least σ a b = _ ∧ _
  unfold fX11_least gLeast
  rw [rts_ok, cl_s, lt_e]
  by_cases c1 : isTs a
  case neg => rw [if_neg c1, if_pos rfl, if_neg (fun z => c1 z.1)]; exact rbad h
  rw [if_pos c1, if_neg (by decide), isInI σ b 0 1 0 1 rfl rfl, cl_s]
  by_cases c2 : 0 ≤ b ∧ b ≤ 1
  case neg => rw [if_neg c2, if_pos rfl, if_neg (fun z => c2 z.2)]; exact rbad h
  rw [if_pos c2, if_neg (by decide), if_pos (show isTs a ∧ (0 ≤ b ∧ b ≤ 1) from ⟨c1, c2⟩)]
  have hn := h.forms.2.1
  have hS := isS_all hn
  have hLl := lsF_lt A.F A.n (allS A.n) a
  rw [h.forms.1, lt_e, show (1 : Int32) <<< (nI A.n &&& 31) - 1 = allS A.n from rfl, leastTests_ok h 6 8 _ _ c1.2 (by decide) (by decide) hS, cl_s]
  by_cases d0 : b = 0
  · rw [if_pos d0, if_pos d0]
    exact ⟨σ, rfl, h, fun _ _ => rfl⟩
  rw [if_neg d0, if_neg d0]
  refine loopMc (fun k => nI (12 - k) - 1) (fX11_least_L53 (fun (m18 : Mem) (x19 : Int32) => some (x19, m18)) (fun (m21 : Mem) => some ((-1 : Int32), m21)) a (allS A.n) (nI (lsF A.F A.n (allS A.n) a))) (fX11_least_L53_b (fun (m18 : Mem) (x19 : Int32) => some (x19, m18)) (fun (m21 : Mem) => some ((-1 : Int32), m21)) a (allS A.n) (nI (lsF A.F A.n (allS A.n) a))) (fun _ _ _ => rfl) 12
    (fun k m => m = σ ∧ fstB A.F A.n (allS A.n) a = srch (fun b => okB A.F A.n (allS A.n) a b && decide (lvF A.F A.n (allS A.n) a b = lsF A.F A.n (allS A.n) a)) (12 - k))
    (fun r => ∃ σ', r = some (ansO (fstB A.F A.n (allS A.n) a), σ') ∧ RInv σ' A ∧ Lo σ σ') ?_ ?_ 5000 0 σ (by omega) (by omega) ⟨rfl, rfl⟩
  · rintro m rec ⟨rfl, e⟩
    unfold fX11_least_L53_b
    rw [if_pos (by decide), e, Nat.sub_self, srch]
    exact ⟨m, rfl, h, fun _ _ => rfl⟩
  · rintro k m rec hk ⟨rfl, e⟩
    unfold fX11_least_L53_b
    have hb : 11 - k < 12 := by omega
    have hlt := lvF_lt A.F A.n (allS A.n) a (11 - k)
    rw [show 12 - k = (11 - k) + 1 by omega, srch] at e
    rw [dn12 hk, if_neg (nI_pos (by omega)), dn12' hk, has_ok m a (show 11 - k < 32 by omega), cl_s, lt_e]
    have e' : 12 - (k + 1) = 11 - k := by omega
    by_cases cT : bt a (11 - k) = true
    · have hc := cnt_clr (show 11 - k < 32 by omega) cT
      rw [if_pos cT, if_neg (by decide), ruse_ok h _ hb, cl_s]
      by_cases cU : usf A.F A.n (allS A.n) (11 - k) = true
      · have hok : okB A.F A.n (allS A.n) a (11 - k) = true := by simp [okB, cT, cU]
        rw [if_pos cU, if_neg (by decide)]
        unfold fX11_leastBy
        rw [leastBy_ok h (fX11_leastTests 8) hS hb (fun S' hS' => leastTests_ok h 5 8 S' _ (by have := c1.2; omega) (by decide) (by decide) hS'), cl_s]
        by_cases z : lvF A.F A.n (allS A.n) a (11 - k) = lsF A.F A.n (allS A.n) a
        · left
          rw [if_pos (show (okB A.F A.n (allS A.n) a (11 - k) && decide (lvF A.F A.n (allS A.n) a (11 - k) = lsF A.F A.n (allS A.n) a)) = true by simp [hok, z])] at e
          rw [if_pos (by rw [z]), e]
          exact ⟨m, rfl, h, fun _ _ => rfl⟩
        · right
          rw [if_neg (show ¬ (okB A.F A.n (allS A.n) a (11 - k) && decide (lvF A.F A.n (allS A.n) a (11 - k) = lsF A.F A.n (allS A.n) a)) = true by simp [z])] at e
          rw [if_neg (fun y => z ((nI_eq (by omega) (by omega)).mp y))]
          exact ⟨m, ⟨rfl, by rw [e']; exact e⟩, rfl⟩
      · right
        rw [if_neg (show ¬ (okB A.F A.n (allS A.n) a (11 - k) && decide (lvF A.F A.n (allS A.n) a (11 - k) = lsF A.F A.n (allS A.n) a)) = true by simp [okB, cU])] at e
        rw [if_neg cU, if_pos rfl]
        exact ⟨m, ⟨rfl, by rw [e']; exact e⟩, rfl⟩
    · right
      rw [if_neg (show ¬ (okB A.F A.n (allS A.n) a (11 - k) && decide (lvF A.F A.n (allS A.n) a (11 - k) = lsF A.F A.n (allS A.n) a)) = true by simp [okB, cT])] at e
      rw [if_neg cT, if_pos rfl]
      exact ⟨m, ⟨rfl, by rw [e']; exact e⟩, rfl⟩
