/-! ===== least trees: the class ===== -/
theorem all_cg {B : Nat} {p q : Nat → Bool} (h : ∀ j, j < B → p j = q j) : (List.range B).all p = (List.range B).all q := by
  rw [Bool.eq_iff_iff, List.all_eq_true, List.all_eq_true]
  constructor
  · intro g j hj; rw [← h j (List.mem_range.mp hj)]; exact g j hj
  · intro g j hj; rw [h j (List.mem_range.mp hj)]; exact g j hj
theorem any_cg {B : Nat} {p q : Nat → Bool} (h : ∀ j, j < B → p j = q j) : (List.range B).any p = (List.range B).any q := by
  rw [Bool.eq_iff_iff, List.any_eq_true, List.any_eq_true]
  constructor
  · rintro ⟨j, hj, g⟩; exact ⟨j, hj, by rw [← h j (List.mem_range.mp hj)]; exact g⟩
  · rintro ⟨j, hj, g⟩; exact ⟨j, hj, by rw [h j (List.mem_range.mp hj)]; exact g⟩
theorem all_up {B i c : Nat} {d : Nat → Nat} {P : Nat → Nat → Bool} (hi : i < B) (h : P (d i) i = true) : (List.range B).all (fun j => P (if j = i then c else d j) j) = ((List.range B).all (fun j => P (d j) j) && P c i) := by
  rw [Bool.eq_iff_iff, Bool.and_eq_true, List.all_eq_true, List.all_eq_true]
  simp only [List.mem_range]
  constructor
  · intro g
    refine ⟨fun j hj => ?_, ?_⟩
    · by_cases e : j = i
      · subst e; exact h
      · have := g j hj; rw [if_neg e] at this; exact this
    · have := g i hi; rw [if_pos rfl] at this; exact this
  · rintro ⟨g1, g2⟩ j hj
    by_cases e : j = i
    · subst e; rw [if_pos rfl]; exact g2
    · rw [if_neg e]; exact g1 j hj
theorem any_up {B i c : Nat} {d : Nat → Nat} {Q : Nat → Bool} (hi : i < B) (hc : c ≠ 0) (h : d i = 0) : (List.range B).any (fun j => Q j && decide ((if j = i then c else d j) ≠ 0)) = ((List.range B).any (fun j => Q j && decide (d j ≠ 0)) || Q i) := by
  rw [Bool.eq_iff_iff, Bool.or_eq_true, List.any_eq_true, List.any_eq_true]
  simp only [List.mem_range, Bool.and_eq_true, decide_eq_true_eq]
  constructor
  · rintro ⟨j, hj, g1, g2⟩
    by_cases e : j = i
    · subst e; exact Or.inr g1
    · rw [if_neg e] at g2; exact Or.inl ⟨j, hj, g1, g2⟩
  · rintro (⟨j, hj, g1, g2⟩ | g)
    · by_cases e : j = i
      · subst e; exact absurd h g2
      · exact ⟨j, hj, g1, by rw [if_neg e]; exact g2⟩
    · exact ⟨i, hi, g, by rw [if_pos rfl]; exact hc⟩
def plN (T : Int32) (i : Nat) : Nat := (dsc (bt T) 12).getD i 0
def bN (T : Int32) : Nat := (dsc (bt T) 12).length
theorem plN_e {T : Int32} {i : Nat} (h : i < bN T) : plN T i = (dsc (bt T) 12)[i]'h := by
  unfold plN
  have h' : i < (dsc (bt T) 12).length := h
  simp [h']
  rfl
theorem plN_m {T : Int32} {i : Nat} (h : i < bN T) : plN T i < 12 ∧ bt T (plN T i) = true := by
  rw [plN_e h]
  exact (dsc_mem _ 12 _).mp (List.getElem_mem _)
theorem plN_of {T : Int32} {b : Nat} (hb : b < 12) (h : bt T b = true) : ∃ i, i < bN T ∧ plN T i = b := by
  obtain ⟨i, hi, e⟩ := List.mem_iff_getElem.mp ((dsc_mem (bt T) 12 b).mpr ⟨hb, h⟩)
  exact ⟨i, hi, by rw [plN_e hi]; exact e⟩
theorem plN_desc {T : Int32} {i j : Nat} (hij : i < j) (hj : j < bN T) : plN T j < plN T i := by
  have hi : i < bN T := by omega
  rw [plN_e hi, plN_e hj]
  have r1 := dsc_rank (bt T) 12 i hi
  have r2 := dsc_rank (bt T) 12 j hj
  rcases Nat.lt_or_ge ((dsc (bt T) 12)[j]) ((dsc (bt T) 12)[i]) with h | h
  · exact h
  · have := cnt_mono (bt T) h
    omega
def cnd (F : Nat → Fm) (n : Nat) (T : Int32) (s : Nat) : Int32 := mkS (fun f => (List.range (bN T)).all (fun i => (decide (dig s i ≠ 1) || !bt (onesS F n (plN T i)) f) && (decide (dig s i ≠ 2) || !bt (zerosS F n (plN T i)) f))) n
def tsT (T : Int32) (s : Nat) : Int32 := mkS (fun b => (List.range (bN T)).any (fun i => decide (plN T i = b) && decide (dig s i ≠ 0))) 12
def unt (T : Int32) (s : Nat) : Int32 := T &&& (tsT T s ^^^ (-1))
theorem cnd_isS (F : Nat → Fm) {n : Nat} (hn : n ≤ 12) (T : Int32) (s : Nat) : isS n (cnd F n T s) := by
  intro i hi
  unfold cnd
  rw [bt_mkS _ (by omega)]
  have : ¬ i < n := by omega
  simp [this]
theorem cnd_1 {F : Nat → Fm} {n : Nat} (hn : n ≤ 12) {T : Int32} (hB : bN T ≤ 6) {s i : Nat} (hs : s < 729) (hi : i < bN T) (hd : dig s i = 0) : cnd F n T (s + 3 ^ i) = sdS F n (cnd F n T s) (plN T i) false := by
  apply bt_ext
  intro f hf
  rw [← sd_f, bt_and, bt_not]
  unfold cnd
  rw [bt_mkS _ (by omega), bt_mkS _ (by omega)]
  by_cases hfn : f < n
  · rw [all_cg (q := fun j => (fun (d j : Nat) => (decide (d ≠ 1) || !bt (onesS F n (plN T j)) f) && (decide (d ≠ 2) || !bt (zerosS F n (plN T j)) f)) (if j = i then 1 else dig s j) j) (fun j hj => by simp only [(dig_12 i (by omega) s hs hd j (by omega)).1])]
    rw [all_up (P := fun (d j : Nat) => (decide (d ≠ 1) || !bt (onesS F n (plN T j)) f) && (decide (d ≠ 2) || !bt (zerosS F n (plN T j)) f)) hi (by rw [hd]; simp)]
    simp [hfn, hf]
  · simp [hfn]
theorem cnd_2 {F : Nat → Fm} {n : Nat} (hn : n ≤ 12) {T : Int32} (hB : bN T ≤ 6) {s i : Nat} (hs : s < 729) (hi : i < bN T) (hd : dig s i = 0) : cnd F n T (s + 2 * 3 ^ i) = sdS F n (cnd F n T s) (plN T i) true := by
  apply bt_ext
  intro f hf
  rw [← sd_t, bt_and, bt_not]
  unfold cnd
  rw [bt_mkS _ (by omega), bt_mkS _ (by omega)]
  by_cases hfn : f < n
  · rw [all_cg (q := fun j => (fun (d j : Nat) => (decide (d ≠ 1) || !bt (onesS F n (plN T j)) f) && (decide (d ≠ 2) || !bt (zerosS F n (plN T j)) f)) (if j = i then 2 else dig s j) j) (fun j hj => by simp only [(dig_12 i (by omega) s hs hd j (by omega)).2])]
    rw [all_up (P := fun (d j : Nat) => (decide (d ≠ 1) || !bt (onesS F n (plN T j)) f) && (decide (d ≠ 2) || !bt (zerosS F n (plN T j)) f)) hi (by rw [hd]; simp)]
    simp [hfn, hf]
  · simp [hfn]
theorem tsT_up {T : Int32} {s s' i c : Nat} (hc : c ≠ 0) (hi : i < bN T) (hd : dig s i = 0) (h : ∀ j, j < bN T → dig s' j = if j = i then c else dig s j) : tsT T s' = tsT T s ||| (1 <<< (nI (plN T i) &&& 31)) := by
  have hp := (plN_m hi).1
  apply bt_ext
  intro b hb
  unfold tsT
  rw [bt_or, bt_one (by omega), bt_mkS _ (by decide), bt_mkS _ (by decide)]
  rw [any_cg (q := fun j => decide (plN T j = b) && decide ((if j = i then c else dig s j) ≠ 0)) (fun j hj => by simp only [h j hj])]
  rw [any_up (Q := fun j => decide (plN T j = b)) hi hc hd]
  by_cases e : b = plN T i
  · subst e; simp [hp]
  · have e2 : ¬ plN T i = b := fun z => e z.symm
    simp [e, e2]
theorem unt_up {T : Int32} {s s' i c : Nat} (hc : c ≠ 0) (hi : i < bN T) (hd : dig s i = 0) (h : ∀ j, j < bN T → dig s' j = if j = i then c else dig s j) : unt T s' = clr (unt T s) (plN T i) := by
  have hp := (plN_m hi).1
  apply bt_ext
  intro b hb
  rw [clr_bt (by omega)]
  unfold unt
  rw [tsT_up hc hi hd h, bt_and, bt_and, bt_not, bt_not, bt_or, bt_one (by omega)]
  simp [hb, Bool.and_assoc]
theorem dig_0 (i : Nat) : dig 0 i = 0 := by unfold dig; simp
theorem cnd_0 (F : Nat → Fm) {n : Nat} (hn : n ≤ 12) (T : Int32) : cnd F n T 0 = allS n := by
  apply bt_ext
  intro f hf
  unfold cnd
  rw [bt_mkS _ (by omega), allS_bt n hn f hf]
  simp [dig_0]
theorem tsT_0 (T : Int32) : tsT T 0 = 0 := by
  rw [eq0_bt]
  intro b _
  unfold tsT
  rw [bt_mkS _ (by decide)]
  simp [dig_0]
theorem unt_0 (T : Int32) : unt T 0 = T := by
  unfold unt
  rw [tsT_0]
  apply bt_ext
  intro b hb
  rw [bt_and, bt_not, bt_0]; simp [hb]
theorem cnt_imp {p q : Nat → Bool} (h : ∀ x, p x = true → q x = true) : ∀ n, cnt p n ≤ cnt q n
  | 0 => Nat.le_refl _
  | n + 1 => by
    rw [cnt, cnt]
    have := cnt_imp h n
    by_cases e : p n = true
    · rw [if_pos e, if_pos (h n e)]; omega
    · rw [if_neg e]; omega
theorem unt_cnt {T : Int32} (hT : cnt (bt T) 32 ≤ 6) (s : Nat) : cnt (bt (unt T s)) 32 ≤ 6 := by
  have := cnt_imp (p := bt (unt T s)) (q := bt T) (fun x hx => by unfold unt at hx; rw [bt_and, Bool.and_eq_true] at hx; exact hx.1) 32
  omega
def lsS (F : Nat → Fm) (n : Nat) (T : Int32) (s : Nat) : Nat := lsF F n (cnd F n T s) (unt T s)
theorem pw3 : ∀ i, i < 7 → sV 2 i = nI (3 ^ i) := by decide
theorem pw3_le : ∀ i, i < 7 → 3 ^ i ≤ 729 := by decide
def CSt (σ : Mem) (F : Nat → Fm) (n : Nat) (T : Int32) (N : Nat) : Prop := ∀ s, s < N → σ 291 s = cnd F n T s ∧ σ 292 s = tsT T s
def CPl (σ : Mem) (T : Int32) : Prop := ∀ i, i < bN T → σ 290 i = nI (plN T i)
/-- the places -/
theorem places_ok {σ : Mem} {T : Int32} (hB : bN T ≤ 6) (kk : Mem → Int32 → Option (Unit × Mem)) :
    ∃ σ', fX8_growLeast_L9 kk T 5000 σ 0 11 = kk σ' (nI (bN T)) ∧ CPl σ' T ∧ ∀ q, q ≠ 290 → σ' q = σ q := by
  have hb12 : ∀ pre : List Nat, ∀ k, dsc (bt T) 12 = pre ++ dsc (bt T) k → pre.length ≤ 6 := fun pre k e => by
    have : bN T = pre.length + (dsc (bt T) k).length := by unfold bN; rw [e, List.length_append]
    omega
  rw [show (11 : Int32) = (fun k => nI (12 - k) - 1) 0 from by decide]
  have : ∀ (fuel k : Nat) (m : Mem) (x : Int32), k ≤ 12 → 12 - k < fuel → (∃ pre : List Nat, dsc (bt T) 12 = pre ++ dsc (bt T) (12 - k) ∧ x = nI pre.length ∧ (∀ i (h : i < pre.length), m 290 i = nI pre[i]) ∧ ∀ q, q ≠ 290 → m q = σ q) → ∃ σ', fX8_growLeast_L9 kk T fuel m x (nI (12 - k) - 1) = kk σ' (nI (bN T)) ∧ CPl σ' T ∧ ∀ q, q ≠ 290 → σ' q = σ q := by
    intro fuel
    induction fuel with
    | zero => intro k m x _ h; omega
    | succ fuel ih =>
      rintro k m x hk hf ⟨pre, e1, rfl, e2, e3⟩
      show ∃ σ', fX8_growLeast_L9_b kk T (fX8_growLeast_L9 kk T fuel) m (nI pre.length) (nI (12 - k) - 1) = _ ∧ _
      unfold fX8_growLeast_L9_b
      by_cases c : k = 12
      · subst c
        rw [if_pos (by decide)]
        rw [Nat.sub_self, dsc, List.append_nil] at e1
        refine ⟨m, by unfold bN; rw [e1], fun i hi => ?_, e3⟩
        have hi' : i < pre.length := by unfold bN at hi; rw [e1] at hi; exact hi
        rw [e2 i hi', plN_e hi]
        congr 1
        simp only [e1]
      · have hk2 : k < 12 := by omega
        have hl := hb12 pre _ e1
        rw [dn12 hk2, if_neg (nI_pos (by omega)), dn12' hk2, shr1 (by omega), lt_e]
        have hds : dsc (bt T) (12 - k) = if bt T (11 - k) = true then (11 - k) :: dsc (bt T) (11 - k) else dsc (bt T) (11 - k) := by
          rw [show 12 - k = (11 - k) + 1 by omega, dsc]
        by_cases z : bt T (11 - k) = true
        · rw [if_pos z] at hds
          have e1' : dsc (bt T) 12 = (pre ++ [11 - k]) ++ dsc (bt T) (12 - (k + 1)) := by
            rw [e1, hds, show 12 - (k + 1) = 11 - k by omega]; simp
          have hl2 := hb12 _ _ e1'
          rw [List.length_append] at hl2
          simp only [List.length_cons, List.length_nil] at hl2
          rw [if_pos z, if_pos rfl, if_pos (show nI pre.length < 6 from nI_lt (b := 6) (by omega) (by decide)), ck_t (inb_nI (show pre.length < 6 by omega) (by decide)), lt_e, ix_nI (by omega), nI_1]
          refine ih (k + 1) _ _ (by omega) (by omega) ⟨pre ++ [11 - k], e1', by rw [List.length_append]; rfl, fun i hi => ?_, fun q hq => by rw [sto_ne hq]; exact e3 q hq⟩
          rw [List.length_append] at hi
          by_cases y : i < pre.length
          · rw [sto_nj (by omega), List.getElem_append_left y]; exact e2 i y
          · have : i = pre.length := by simp at hi; omega
            subst this
            rw [sto_eq]; simp
        · rw [if_neg z] at hds
          rw [if_neg z, if_neg (by decide)]
          exact ih (k + 1) m _ (by omega) (by omega) ⟨pre, by rw [e1, hds, show 12 - (k + 1) = 11 - k by omega], rfl, e2, e3⟩
  exact this 5000 0 σ 0 (by omega) (by omega) ⟨[], rfl, rfl, fun i hi => absurd hi (Nat.not_lt_zero i), fun _ _ => rfl⟩
theorem fillB {n : Nat} {F : Nat → Fm} (hn : n ≤ 12) {T : Int32} (hB : bN T ≤ 6) {i : Nat} (hi : i < bN T) (y13 y14 : Int32) (kk : Mem → Option (Unit × Mem)) (σ : Mem) (hC : CT σ F n) (hS : CSt σ F n T (3 ^ i)) :
    ∃ m', fX8_fillStates_L44 kk y13 y14 (nI (3 ^ i)) (nI (plN T i)) 5000 σ 0 = kk m' ∧ CSt m' F n T (3 ^ (i + 1)) ∧ ∀ q, q ≠ 291 → q ≠ 292 → m' q = σ q := by
  have hp := (plN_m hi).1
  have h3 := pw3_le (i + 1) (by omega)
  have hs3 : 3 ^ (i + 1) = 3 * 3 ^ i := by rw [Nat.pow_succ]; omega
  have hpos : 0 < 3 ^ i := Nat.pow_pos (by decide)
  refine loopM (fX8_fillStates_L44 kk y13 y14 (nI (3 ^ i)) (nI (plN T i))) (fX8_fillStates_L44_b kk y13 y14 (nI (3 ^ i)) (nI (plN T i))) (fun _ _ _ => rfl) (3 ^ i)
    (fun s m => (∀ q, q ≠ 291 → q ≠ 292 → m q = σ q) ∧ CSt m F n T (3 ^ i) ∧ ∀ r, r < s → (m 291 (r + 3 ^ i) = cnd F n T (r + 3 ^ i) ∧ m 292 (r + 3 ^ i) = tsT T (r + 3 ^ i)) ∧ (m 291 (r + 2 * 3 ^ i) = cnd F n T (r + 2 * 3 ^ i) ∧ m 292 (r + 2 * 3 ^ i) = tsT T (r + 2 * 3 ^ i)))
    (fun r => ∃ m', r = kk m' ∧ CSt m' F n T (3 ^ (i + 1)) ∧ ∀ q, q ≠ 291 → q ≠ 292 → m' q = σ q) ?_ ?_ 5000 0 σ (by omega) (by omega) ⟨fun _ _ _ => rfl, hS, fun r hr => by omega⟩
  · rintro m rec ⟨g1, g2, g3⟩
    unfold fX8_fillStates_L44_b
    rw [if_neg (nI_nlt (Nat.le_refl _) (by omega))]
    refine ⟨m, rfl, fun s hs => ?_, g1⟩
    by_cases c1 : s < 3 ^ i
    · exact g2 s c1
    · by_cases c2 : s < 2 * 3 ^ i
      · have := (g3 (s - 3 ^ i) (by omega)).1
        rw [show s - 3 ^ i + 3 ^ i = s by omega] at this
        exact this
      · have := (g3 (s - 2 * 3 ^ i) (by omega)).2
        rw [show s - 2 * 3 ^ i + 2 * 3 ^ i = s by omega] at this
        exact this
  · rintro s m rec hs ⟨g1, g2, g3⟩
    right
    unfold fX8_fillStates_L44_b
    have hd : dig s i = 0 := by unfold dig; rw [Nat.div_eq_of_lt hs]
    have hB12 := inb_nI hp (show 12 < 2 ^ 31 by decide)
    have i0 := inb_nI (show s < 729 by omega) (show 729 < 2 ^ 31 by decide)
    have i1 := inb_nI (show s + 3 ^ i < 729 by omega) (show 729 < 2 ^ 31 by decide)
    have i2 := inb_nI (show s + 2 * 3 ^ i < 729 by omega) (show 729 < 2 ^ 31 by decide)
    have o1 := (hC _ hp).1
    have o2 := (hC _ hp).2
    have hd1 : ∀ j, j < bN T → dig (s + 3 ^ i) j = if j = i then 1 else dig s j := fun j hj => (dig_12 i (by omega) s (by omega) hd j (by omega)).1
    have hd2 : ∀ j, j < bN T → dig (s + 2 * 3 ^ i) j = if j = i then 2 else dig s j := fun j hj => (dig_12 i (by omega) s (by omega) hd j (by omega)).2
    rw [if_pos (nI_lt hs (by omega)), nI_1, nI_add, show (2 : Int32) * nI (3 ^ i) = nI (2 * 3 ^ i) by rw [show (2 : Int32) = nI 2 from rfl, pk_mul], nI_add]
    simp only [ck_t i0, ck_t i1, ck_t i2, ck_t hB12, ix_nI (show s < 2 ^ 31 by omega), ix_nI (show s + 3 ^ i < 2 ^ 31 by omega), ix_nI (show s + 2 * 3 ^ i < 2 ^ 31 by omega), ix_nI (show plN T i < 2 ^ 31 by omega)]
    rw [lt_e, lt_e, lt_e, lt_e]
    have hn1 : s ≠ s + 3 ^ i := by omega
    have hn2 : s ≠ s + 2 * 3 ^ i := by omega
    have hn3 : s + 2 * 3 ^ i ≠ s + 3 ^ i := by omega
    rw [g1 288 (by decide) (by decide), o1, sto_ne (show (289 : Nat) ≠ 291 by decide), g1 289 (by decide) (by decide), o2, sto_nj hn1, (g2 s hs).1, sd_f, sd_t, sto_ne (show (292 : Nat) ≠ 291 by decide), sto_ne (show (292 : Nat) ≠ 291 by decide), (g2 s hs).2, sto_nj hn1, sto_ne (show (292 : Nat) ≠ 291 by decide), sto_ne (show (292 : Nat) ≠ 291 by decide), (g2 s hs).2]
    rw [← cnd_1 hn hB (by omega) hi hd, ← cnd_2 hn hB (by omega) hi hd]
    refine ⟨_, ⟨fun q a b => by rw [sto_ne b, sto_ne b, sto_ne a, sto_ne a]; exact g1 q a b, fun r hr => ?_, fun r hr => ?_⟩, rfl⟩
    · have h1 := g2 r hr
      refine ⟨?_, ?_⟩
      · rw [sto_ne (by decide), sto_ne (by decide), sto_nj (by omega), sto_nj (by omega)]; exact h1.1
      · rw [sto_nj (by omega), sto_nj (by omega), sto_ne (by decide), sto_ne (by decide)]; exact h1.2
    · by_cases e : r = s
      · subst e
        refine ⟨⟨?_, ?_⟩, ?_, ?_⟩
        · rw [sto_ne (by decide), sto_ne (by decide), sto_nj (by omega), sto_eq]
        · rw [sto_nj (by omega), sto_eq, tsT_up (by decide) hi hd hd1]
        · rw [sto_ne (by decide), sto_ne (by decide), sto_eq]
        · rw [sto_eq, tsT_up (by decide) hi hd hd2]
      · have h1 := g3 r (by omega)
        refine ⟨⟨?_, ?_⟩, ?_, ?_⟩
        · rw [sto_ne (by decide), sto_ne (by decide), sto_nj (by omega), sto_nj (by omega)]; exact h1.1.1
        · rw [sto_nj (by omega), sto_nj (by omega), sto_ne (by decide), sto_ne (by decide)]; exact h1.1.2
        · rw [sto_ne (by decide), sto_ne (by decide), sto_nj (by omega), sto_nj (by omega)]; exact h1.2.1
        · rw [sto_nj (by omega), sto_nj (by omega), sto_ne (by decide), sto_ne (by decide)]; exact h1.2.2
theorem fill_st {σ : Mem} {n : Nat} {F : Nat → Fm} (hn : n ≤ 12) {T : Int32} (hB : bN T ≤ 6) (h9 : σ 9 1 = nI n) (hC : CT σ F n) (hP : CPl σ T) :
    ∃ σ', fX8_fillStates σ (nI (bN T)) = some ((), σ') ∧ CSt σ' F n T (3 ^ bN T) ∧ ∀ q, q ≠ 291 → q ≠ 292 → σ' q = σ q := by
  unfold fX8_fillStates
  rw [all_ok h9, cl_s, ck_t (by decide), lt_e, ck_t (by decide), lt_e, show ix (0 : Int32) = 0 from rfl]
  have hs0 : ∀ q, q ≠ 291 → q ≠ 292 → sto (sto σ 291 0 (allS n)) 292 0 0 q = σ q := fun q a b => by rw [sto_ne b, sto_ne a]
  refine loopM (fX8_fillStates_L22 (fun (m9 : Mem) => some ((), m9)) (nI (bN T))) (fX8_fillStates_L22_b (fun (m9 : Mem) => some ((), m9)) (nI (bN T))) (fun _ _ _ => rfl) (bN T)
    (fun i m => (∀ q, q ≠ 291 → q ≠ 292 → m q = σ q) ∧ CSt m F n T (3 ^ i))
    (fun r => ∃ σ', r = some ((), σ') ∧ CSt σ' F n T (3 ^ bN T) ∧ ∀ q, q ≠ 291 → q ≠ 292 → σ' q = σ q) ?_ ?_ 5000 0 _ (by omega) (by omega) ⟨hs0, fun s hs => by
      have : s = 0 := by simp at hs; omega
      subst this
      exact ⟨by rw [sto_ne (by decide), sto_eq, cnd_0 F hn], by rw [sto_eq, tsT_0]⟩⟩
  · rintro m rec ⟨g1, g2⟩
    unfold fX8_fillStates_L22_b
    rw [if_neg (nI_nlt (Nat.le_refl _) (by omega))]
    exact ⟨m, rfl, g2, g1⟩
  · rintro i m rec hi ⟨g1, g2⟩
    right
    unfold fX8_fillStates_L22_b
    have hC1 : CT m F n := fun c hc => by rw [g1 288 (by decide) (by decide), g1 289 (by decide) (by decide)]; exact hC c hc
    rw [if_pos (nI_lt hi (by omega)), ck_t (inb_nI (show i < 7 by omega) (by decide)), lt_e, ck_t (inb_nI (show i < 6 by omega) (by decide)), lt_e, ix_nI (by omega), pw3 i (by omega), g1 290 (by decide) (by decide), hP i hi, nI_1]
    obtain ⟨m1, c1, c2, c3⟩ := fillB hn hB hi (nI (bN T)) (nI i) (fun m19 => rec m19 (nI (i + 1))) m hC1 g2
    rw [c1]
    exact ⟨m1, ⟨fun q a b => by rw [c3 q a b]; exact g1 q a b, c2⟩, rfl⟩
