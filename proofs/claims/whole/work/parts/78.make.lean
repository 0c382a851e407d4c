/-! ===== make ===== -/
theorem isW_of {w : Int32} (h : isW w) : ∃ v, v < 4096 ∧ w = nI v := by
  have hv : w.toBitVec.toNat < 2 ^ 12 := by
    apply Nat.lt_pow_two_of_testBit
    intro i hi
    exact h i hi
  refine ⟨w.toBitVec.toNat, hv, ?_⟩
  apply bt_ext
  intro i _
  rw [bt_nI (by omega)]; rfl
def wdB (f : Fm) (hand : Nat → Int32) (S : Nat → Bool) (b : Nat) : Bool := match lof (fpt f b) with
  | some l => S l && bt (hand l) (cnt (fl f l) b)
  | none => fpt f b == 49
def wdS (f : Fm) (hand : Nat → Int32) (S : Nat → Bool) : Int32 := mkS (wdB f hand S) 12
theorem sgn49 : ∀ l, l < 8 → ¬ sgn l = 49 := by decide
theorem wd_val (f : Fm) (hand : Nat → Int32) : valP f = wdS f hand (fun _ => false) := by
  refine mkS_congr (fun b _ => ?_)
  unfold wdB
  cases h : lof (fpt f b) with
  | none => rfl
  | some l =>
    have := lof_iff.mp h
    rw [this.2]
    simp [sgn49 l this.1]
theorem wd_congr {f : Fm} {hand : Nat → Int32} {S S' : Nat → Bool} (h : ∀ b, b < 12 → ∀ l, lof (fpt f b) = some l → S l = S' l) : wdS f hand S = wdS f hand S' := by
  refine mkS_congr (fun b hb => ?_)
  unfold wdB
  cases e : lof (fpt f b) with
  | none => rfl
  | some l => simp only [h b hb l e]
theorem wd_lay {f : Fm} {hand : Nat → Int32} {S : Nat → Bool} {l : Nat} (hl : l < 8) : laP (fl f l) (wdS f hand S) (hand l) = wdS f hand (fun x => S x || decide (x = l)) := by
  unfold laP
  refine mkS_congr (fun b hb => ?_)
  have hb2 : bt (wdS f hand S) b = wdB f hand S b := by unfold wdS; rw [bt_mkS _ (by decide)]; simp [hb]
  have hf := fp_lof (pt := fpt f) (l := l) (b := b) hl
  rw [hb2]
  unfold wdB
  cases e : lof (fpt f b) with
  | none =>
    have : ¬ fl f l b = true := fun z => by rw [hf.mp z] at e; cases e
    rw [if_neg this]
  | some k =>
    by_cases z : k = l
    · subst z
      rw [if_pos (hf.mpr e)]; simp
    · have : ¬ fl f l b = true := fun y => by rw [hf.mp y] at e; cases e; exact z rfl
      rw [if_neg this]; simp [z]
theorem wd_isW (f : Fm) (hand : Nat → Int32) (S : Nat → Bool) : isW (wdS f hand S) := isW_mkS _
def canL (f : Fm) (hand : Nat → Int32) (l : Nat) : Bool := canP (cnt (fl f l) 12) (decide (3 < l)) (hand l)
def canAll (f : Fm) (hand : Nat → Int32) : Bool := (lts f).all (canL f hand)
def mkW (f : Fm) (hand : Nat → Int32) : Int32 := wdS f hand (fun _ => true)
def gMake (a : Int32) (A : Ab) : Int32 × Ab := if 0 ≤ a ∧ a < nI A.n then (if canAll (A.F (ix a)) A.d.hand = true then (if mnN A.F A.n (mkW (A.F (ix a)) A.d.hand) = ix a then (mkW (A.F (ix a)) A.d.hand, A) else bad3 A) else bad A) else bad A
theorem lts_of {f : Fm} {b l : Nat} (hb : b < 12) (h : lof (fpt f b) = some l) : l ∈ lts f := (ordL_mem _ 12 (Nat.le_refl _) l).mpr ⟨b, hb, by omega, h⟩
theorem madeOf_ok {σ : Mem} {k : Nat} {f : Fm} (h : CForm σ k f) {hand : Nat → Int32} (hh : ∀ i, i < 8 → σ 285 i = hand i) : fX3_madeOf k σ 285 = some (if canAll f hand = true then mkW f hand else -1, σ) := by
  have hlen := lts_len8 f
  unfold fX3_madeOf
  rw [lt_e, h.1.2.2.2]
  refine loopA (fX3_madeOf_L7 (fun (m8 : Mem) => some ((-1 : Int32), m8)) (fun (m11 : Mem) (x12 : Int32) => some (x12, m11)) k 285) (fX3_madeOf_L7_b (fun (m8 : Mem) => some ((-1 : Int32), m8)) (fun (m11 : Mem) (x12 : Int32) => some (x12, m11)) k 285) (fun _ _ _ _ => rfl) (lts f).length
    (fun i m t => m = σ ∧ t = wdS f hand (fun x => decide (x ∈ (lts f).take i)) ∧ ∀ j (hj : j < (lts f).length), j < i → canL f hand (lts f)[j] = true)
    (fun r => r = some (if canAll f hand = true then mkW f hand else -1, σ)) ?_ ?_ 5000 0 σ (valP f) (by omega) (by omega) ⟨rfl, by rw [wd_val f hand]; simp, fun j _ hj => by omega⟩
  · rintro m t rec ⟨rfl, rfl, hc⟩
    unfold fX3_madeOf_L7_b
    rw [h.2.2.1.1, if_neg (nI_nlt (Nat.le_refl _) (by omega))]
    have : canAll f hand = true := by
      unfold canAll
      rw [List.all_eq_true]
      intro l hl
      obtain ⟨j, hj, rfl⟩ := List.mem_iff_getElem.mp hl
      exact hc j hj hj
    rw [if_pos this, List.take_length]
    rw [mkW, wd_congr (S := fun x => decide (x ∈ lts f)) (S' := fun _ => true) (fun b hb l e => by simpa using lts_of hb e)]
  · rintro i m t rec hi ⟨rfl, rfl, hc⟩
    unfold fX3_madeOf_L7_b
    have hm := lts_mem.mp (List.getElem_mem hi)
    have hfd := h.2.1 (lts f)[i] hm.1
    have hin := inb_nI hm.1 (show 8 < 2 ^ 31 by decide)
    rw [h.2.2.1.1, if_pos (nI_lt hi (by omega)), ck_t (inb_nI (show i < 8 by omega) (by decide)), ix_nI (show i < 2 ^ 31 by omega), h.2.2.1.2 i hi]
    simp only [lt_e, ck_t hin, ix_nI (show (lts f)[i] < 2 ^ 31 by omega)]
    rw [show al 285 = 8 from rfl, show Int32.ofNat 8 = nI 8 from rfl, if_pos (nI_lt hm.1 (by decide)), ck_t hin, hh _ hm.1, canHold_ok hfd hm.2, cl_s, putInto_ok hfd _ _ (wd_isW _ _ _), cl_s, nI_1]
    by_cases e : canL f hand (lts f)[i] = true
    · right
      rw [if_pos (show canP (cnt (fl f (lts f)[i]) 12) (decide (3 < (lts f)[i])) (hand (lts f)[i]) = true from e), if_neg (by decide)]
      refine ⟨m, _, ⟨rfl, ?_, fun j hj hji => ?_⟩, rfl⟩
      · rw [wd_lay hm.1]
        refine wd_congr (fun b _ l _ => ?_)
        rw [List.take_succ_eq_append_getElem hi, Bool.eq_iff_iff]
        simp only [List.mem_append, List.mem_singleton, Bool.or_eq_true, decide_eq_true_eq]
      · by_cases z : j = i
        · subst z; exact e
        · exact hc j hj (by omega)
    · left
      rw [if_neg (show ¬ canP (cnt (fl f (lts f)[i]) 12) (decide (3 < (lts f)[i])) (hand (lts f)[i]) = true from e), if_pos rfl]
      have : ¬ canAll f hand = true := by
        unfold canAll
        rw [List.all_eq_true]
        intro z
        exact e (z _ (List.getElem_mem hi))
      rw [if_neg this]
theorem cs_make (a : Int32) : CS (fun σ => fX10_make σ a) (gMake a) := by
  intro σ A h
  show ∃ σ', fX10_make σ a = _ ∧ _
  unfold fX10_make gMake
  rw [has4 h, cl_s]
  by_cases c : 0 ≤ a ∧ a < nI A.n
  case neg => rw [if_neg c, if_pos rfl, if_neg c]; exact cbad h
  have hn := h.mean.1.2.1
  obtain ⟨i, hi, rfl⟩ := rng c.1 c.2 (by omega)
  rw [if_pos c, if_neg (by decide), if_pos c, ck_t (inb_nI (show i < 12 by omega) (by decide)), ix_nI (by omega), madeOf_ok (h.mean.1.2.2 i hi).1 h.now.1.2.1, cl_s]
  by_cases e : canAll (A.F i) A.d.hand = true
  · obtain ⟨v, hv, ev⟩ := isW_of (wd_isW (A.F i) A.d.hand (fun _ => true))
    rw [show wdS (A.F i) A.d.hand (fun _ => true) = mkW (A.F i) A.d.hand from rfl] at ev
    rw [if_pos e, if_pos e, ev, if_neg (fun z => absurd (nI_pos' (show v < 2 ^ 31 by omega)) (by rw [z]; decide))]
    obtain ⟨s, b1, b2⟩ := meaning_ex h.mean hv
    rw [b1, cl_s]
    have hm := (mnN_lt (F := A.F) hn (nI v)).1
    by_cases z : mnN A.F A.n (nI v) = i
    · rw [if_pos (by rw [z]), if_pos z]
      exact ⟨s, rfl, h.kx b2, b2.hi⟩
    · rw [if_neg (fun y => z ((nI_eq (by omega) (by omega)).mp y)), if_neg z]
      obtain ⟨s2, d1, d2, d3⟩ := cbad3 (h.kx b2)
      exact ⟨s2, d1, d2, fun q hq => (d3 q hq).trans (b2.hi q hq)⟩
  · rw [if_neg e, if_neg e, if_pos rfl]
    exact cbad h
theorem rs_make (a : Int32) : RS (fun σ => fX11_make σ a) (gMake a) := by
  intro σ A h
  show ∃ σ', fX11_make σ a = _ ∧ _
  unfold fX11_make gMake
  rw [isForm_ok h, cl_s]
  by_cases c : 0 ≤ a ∧ a < nI A.n
  case neg => rw [if_neg c, if_pos rfl, if_neg c]; exact rbad h
  have hn := h.forms.2.1
  obtain ⟨i, hi, rfl⟩ := rng c.1 c.2 (by omega)
  have hf := h.forms.2.2 i hi
  unfold fX11_valueOf
  rw [if_pos c, if_neg (by decide), if_pos c, ck_t (inb_nI (show i < 12 by omega) (by decide)), ix_nI (by omega), hf.1.2.2.2.1.2, cl_s]
  refine loopA (fX11_make_L24 (fun (m12 : Mem) => cl (fX11_refuse m12 (-1001 : Int32)) <| fun r14 m13 => some (r14, m13)) (fun (m17 : Mem) (x18 : Int32) => cl (fX11_meant m17 x18) <| fun r20 m19 => if r20 = nI i then some (x18, m19) else cl (fX11_refuse m19 (-1003 : Int32)) <| fun r22 m21 => some (r22, m21)) (nI i)) (fX11_make_L24_b (fun (m12 : Mem) => cl (fX11_refuse m12 (-1001 : Int32)) <| fun r14 m13 => some (r14, m13)) (fun (m17 : Mem) (x18 : Int32) => cl (fX11_meant m17 x18) <| fun r20 m19 => if r20 = nI i then some (x18, m19) else cl (fX11_refuse m19 (-1003 : Int32)) <| fun r22 m21 => some (r22, m21)) (nI i)) (fun _ _ _ _ => rfl) 8
    (fun k m t => m = σ ∧ t = wdS (A.F i) A.d.hand (fun x => decide (x < k)) ∧ ∀ l, l ∈ lts (A.F i) → l < k → canL (A.F i) A.d.hand l = true)
    (fun r => ∃ σ', r = some ((if canAll (A.F i) A.d.hand = true then (if mnN A.F A.n (mkW (A.F i) A.d.hand) = i then (mkW (A.F i) A.d.hand, A) else bad3 A) else bad A).1, σ') ∧ RInv σ' (if canAll (A.F i) A.d.hand = true then (if mnN A.F A.n (mkW (A.F i) A.d.hand) = i then (mkW (A.F i) A.d.hand, A) else bad3 A) else bad A).2 ∧ Lo σ σ') ?_ ?_ 5000 0 σ _ (by omega) (by omega) ⟨rfl, by rw [wd_val (A.F i) A.d.hand]; simp, fun l _ hl => by omega⟩
  · rintro m t rec ⟨rfl, rfl, hc⟩
    unfold fX11_make_L24_b
    rw [if_neg (by decide)]
    have e : canAll (A.F i) A.d.hand = true := by
      unfold canAll
      rw [List.all_eq_true]
      intro l hl
      exact hc l hl (lts_mem.mp hl).1
    have ew : wdS (A.F i) A.d.hand (fun x => decide (x < 8)) = mkW (A.F i) A.d.hand := wd_congr (fun b hb l z => by simpa using (lof_iff.mp z).1)
    obtain ⟨v, hv, ev⟩ := isW_of (wd_isW (A.F i) A.d.hand (fun _ => true))
    rw [show wdS (A.F i) A.d.hand (fun _ => true) = mkW (A.F i) A.d.hand from rfl] at ev
    rw [if_pos e, ew, ev]
    obtain ⟨s, b1, b2, b3, b4⟩ := meant_ok h.forms h.lk hv
    show ∃ σ', (cl (fX11_meant m (nI v)) _) = _ ∧ _
    rw [b1, cl_s, mnR_mnr]
    have hm := (mnN_lt (F := A.F) hn (nI v)).1
    by_cases z : mnN A.F A.n (nI v) = i
    · rw [if_pos (by rw [z, mnr_f i (by omega)]), if_pos z]
      exact ⟨s, rfl, h.same b2 b3 b4, b2.lo⟩
    · rw [if_neg (fun y => z ((mnr_inj _ hm i (by omega)).mp (by rw [y, mnr_f i (by omega)]))), if_neg z]
      obtain ⟨s2, d1, d2, d3⟩ := rbad3 (h.same b2 b3 b4)
      exact ⟨s2, d1, d2, fun q hq => (d3 q hq).trans (b2.lo q hq)⟩
  · rintro k m t rec hk ⟨rfl, rfl, hc⟩
    unfold fX11_make_L24_b
    have hhd := h.now.1.1 k hk
    rw [Nat.zero_add] at hhd
    have hin := inb_nI (show k < 73 by omega) (show 73 < 2 ^ 31 by decide)
    rw [if_pos (show nI k < 8 from nI_lt (b := 8) hk (by decide)), bitsOf_ok hf.1.1 hk, cl_s, Int32.zero_add]
    simp only [lt_e, ck_t hin, ix_nI (show k < 2 ^ 31 by omega), nI_1]
    by_cases z : 0 < cnt (fl (A.F i) k) 12
    · rw [if_neg (fun y => mkS0.mp y z), hhd, canStand_ok hf.1.1 hk z (hf.2.2.2.1 k hk), cl_s, hhd, laidIn_ok hf.1.1 hk _ _ (wd_isW _ _ _), cl_s]
      by_cases e : canL (A.F i) A.d.hand k = true
      · right
        rw [if_pos (show canP (cnt (fl (A.F i) k) 12) (decide (3 < k)) (A.d.hand k) = true from e), if_neg (by decide)]
        refine ⟨m, _, ⟨rfl, ?_, fun l hl hlk => ?_⟩, rfl⟩
        · show laP (fl (A.F i) k) _ _ = _
          rw [wd_lay hk]
          refine wd_congr (fun b _ l _ => ?_)
          have : (l < k + 1) ↔ (l < k ∨ l = k) := by omega
          simp [this]
        · by_cases y : l = k
          · subst y; exact e
          · exact hc l hl (by omega)
      · left
        rw [if_neg (show ¬ canP (cnt (fl (A.F i) k) 12) (decide (3 < k)) (A.d.hand k) = true from e), if_pos rfl]
        have : ¬ canAll (A.F i) A.d.hand = true := by
          unfold canAll
          rw [List.all_eq_true]
          intro y
          exact e (y _ (lts_mem.mpr ⟨hk, z⟩))
        rw [if_neg this]
        exact rbad h
    · right
      rw [if_pos (mkS0.mpr z)]
      refine ⟨m, _, ⟨rfl, wd_congr (fun b hb l y => ?_), fun l hl hlk => ?_⟩, rfl⟩
      · have : ¬ l = k := fun q => z (by rw [q] at y; exact cnt_pos.mpr ⟨b, hb, (fp_lof hk).mpr y⟩)
        have : (l < k + 1) ↔ (l < k) := by omega
        simp [this]
      · by_cases y : l = k
        · subst y; exact absurd (lts_mem.mp hl).2 z
        · exact hc l hl (by omega)
