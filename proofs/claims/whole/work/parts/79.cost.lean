/-! ===== the first field, costs ===== -/
def firstP (f : Fm) (w : Int32) : Int32 := match (lts f)[0]? with
  | some l => num f l w
  | none => 0
def costP (f : Fm) (w : Int32) : Int32 :=
  if fkd f = 1 then 1 + nI (lts f).length + 2 else if fkd f = 2 then 3 * (1 + nI (lts f).length) else if fkd f = 3 then 2 * (1 + nI (lts f).length + 2)
  else if fkd f = 4 then 3 * (1 + nI (lts f).length) - 1 else if fkd f = 5 then 9 else if fkd f = 6 then 2 * (1 + nI (lts f).length + 2) + iabs (firstP f w) else 1 + nI (lts f).length
theorem isO2 : ∀ i, i < 12 → ∀ l, l < 8 → isO 2 (11 + 22 * i + 1 + 5 + 2 * l) = true := by decide
theorem cfieldAt_ok {σ : Mem} {i : Nat} (hi : i < 12) {f : Fm} (h : CForm σ (11 + 22 * i) f) {j : Nat} (hj : j < (lts f).length) : fX3_fieldAt (11 + 22 * i) σ (nI j) = some (11 + 22 * i + 1 + 5 + 2 * (lts f)[j], σ) ∧ isO 2 (11 + 22 * i + 1 + 5 + 2 * (lts f)[j]) = true := by
  have hlen := lts_len8 f
  have hm := lts_mem.mp (List.getElem_mem hj)
  unfold fX3_fieldAt
  rw [ck_t (inb_nI (show j < 8 by omega) (by decide)), ix_nI (by omega), h.2.2.1.2 j hj, ck_t (inb_nI hm.1 (by decide)), ix_nI (by omega)]
  exact ⟨rfl, isO2 i hi _ hm.1⟩
theorem firstIn_ok {σ : Mem} {i : Nat} (hi : i < 12) {f : Fm} (h : CForm σ (11 + 22 * i) f) (w : Int32) : fX3_firstIn (11 + 22 * i) σ w = some (firstP f w, σ) := by
  have hlen := lts_len8 f
  unfold fX3_firstIn firstP
  rw [h.2.2.1.1]
  by_cases e : (lts f).length = 0
  · rw [if_pos (by rw [e]; rfl)]
    have : (lts f)[0]? = none := by rw [List.getElem?_eq_none_iff]; omega
    rw [this]
  · have hj : 0 < (lts f).length := by omega
    obtain ⟨a1, a2⟩ := cfieldAt_ok hi h hj
    have hm := lts_mem.mp (List.getElem_mem hj)
    rw [show nI 0 = (0 : Int32) from rfl] at a1
    rw [if_neg (nI_ne0 (by omega) (by omega)), a1, cl_s, ck_t a2, cnum_ok h hm.1 hm.2, cl_s]
    have : (lts f)[0]? = some (lts f)[0] := by simp
    rw [this]
theorem kdeq {k : Nat} (h : k < 7) {c : Nat} (hc : c < 7) : (nI k = nI c) ↔ k = c := nI_eq (by omega) (by omega)
theorem costOf_ok {σ : Mem} {i : Nat} (hi : i < 12) {f : Fm} (h : CForm σ (11 + 22 * i) f) (hf : Fok f) (w : Int32) : fX3_costOf (11 + 22 * i) σ w = some (costP f w, σ) := by
  have hk := hf.1
  unfold fX3_costOf costP
  rw [h.2.2.1.1, h.1.1, firstIn_ok hi h, lt_e, lt_e, cl_s]
  have e1 : (nI (fkd f) = (1 : Int32)) ↔ fkd f = 1 := kdeq (c := 1) hk (by decide)
  have e2 : (nI (fkd f) = (2 : Int32)) ↔ fkd f = 2 := kdeq (c := 2) hk (by decide)
  have e3 : (nI (fkd f) = (3 : Int32)) ↔ fkd f = 3 := kdeq (c := 3) hk (by decide)
  have e4 : (nI (fkd f) = (4 : Int32)) ↔ fkd f = 4 := kdeq (c := 4) hk (by decide)
  have e5 : (nI (fkd f) = (5 : Int32)) ↔ fkd f = 5 := kdeq (c := 5) hk (by decide)
  have e6 : (nI (fkd f) = (6 : Int32)) ↔ fkd f = 6 := kdeq (c := 6) hk (by decide)
  simp only [e1, e2, e3, e4, e5, e6]
  split
  · rfl
  · split
    · rfl
    · split
      · rfl
      · split
        · rfl
        · split
          · rfl
          · split <;> rfl
def cstW (F : Nat → Fm) (n : Nat) (w : Int32) : Int32 := if mnN F n w < n then costP (F (mnN F n w)) w else 0
def gCosts (a : Int32) (A : Ab) : Int32 × Ab := if 0 ≤ a ∧ a ≤ 4095 then (cstW A.F A.n a, A) else bad A
theorem has4n {σ : Mem} {n : Nat} {F : Nat → Fm} (h : CForms σ n F) {m : Nat} (hm : m < 2 ^ 31) : fX4_has σ (nI m) = some (if m < n then 1 else 0, σ) := by
  have hn := h.2.1
  unfold fX4_has
  rw [h.1, tst]
  by_cases e : m < n
  · rw [if_pos ⟨nI_pos' hm, nI_lt e (by omega)⟩, if_pos e]
  · rw [if_neg (fun z => nI_nlt (by omega) hm z.2), if_neg e]
theorem cs_costs (a : Int32) : CS (fun σ => fX10_costs σ a) (gCosts a) := by
  intro σ A h
  show ∃ σ', fX10_costs σ a = _ ∧ _
  unfold fX10_costs gCosts
  rw [cword, cl_s]
  by_cases c : 0 ≤ a ∧ a ≤ 4095
  case neg => rw [if_neg c, if_neg c, if_pos rfl]; exact cbad h
  have hn := h.mean.1.2.1
  obtain ⟨w, hw, rfl⟩ := word_of c
  obtain ⟨s, b1, b2⟩ := meaning_ex h.mean hw
  have hm := (mnN_lt (F := A.F) hn (nI w)).1
  rw [if_pos c, if_neg (by decide), if_pos c, b1, cl_s, has4n b2.1.1 (by omega), cl_s]
  refine ⟨s, ?_, h.kx b2, b2.hi⟩
  unfold cstW
  by_cases e : mnN A.F A.n (nI w) < A.n
  · have hf := b2.1.1.2.2 _ e
    rw [if_pos e, if_neg (by decide), ck_t (inb_nI (show mnN A.F A.n (nI w) < 12 by omega) (by decide)), ix_nI (by omega), costOf_ok (by omega) hf.1 hf.2, cl_s, if_pos e]
  · rw [if_neg e, if_pos rfl, if_neg e]
theorem mnr_neg : ∀ m, m < 14 → (mnr m < 0 ↔ 12 ≤ m) := by decide
/-- the reference's -/
theorem firstOf_ok {σ : Mem} {A : Ab} (h : RInv σ A) {w : Nat} (hw : w < 4096) (hm : mnN A.F A.n (nI w) < A.n) : ∃ σ', fX11_firstOf σ (nI w) = some (firstP (A.F (mnN A.F A.n (nI w))) (nI w), σ') ∧ RInv σ' A ∧ RSame σ σ' := by
  have hn := h.forms.2.1
  unfold fX11_firstOf
  obtain ⟨s, b1, b2, b3, b4⟩ := meant_ok h.forms h.lk hw
  have hs := h.same b2 b3 b4
  have hf := hs.forms.2.2 _ hm
  rw [b1, cl_s, mnR_mnr, mnr_f _ (by omega), show (0 : Int32) = nI 0 from rfl, fieldAt_ok hf.1 (by decide), cl_s]
  refine ⟨s, ?_, hs, b2⟩
  unfold firstP
  cases e : (lts (A.F (mnN A.F A.n (nI w))))[0]? with
  | none => rfl
  | some l =>
    have hl := lts_mem.mp (List.mem_of_getElem? e)
    show (if nI l < nI 0 then _ else _) = _
    rw [if_neg (nI_nlt (by omega) (by omega))]
    show (cl (fX11_stands s _ (nI l) (nI w)) _) = _
    rw [rnum_ok hf.1 hf.2 hl.1 hl.2, cl_s]
theorem costsOf_ok {σ : Mem} {A : Ab} (h : RInv σ A) {w : Nat} (hw : w < 4096) : ∃ σ', fX11_costsOf σ (nI w) = some (cstW A.F A.n (nI w), σ') ∧ RInv σ' A ∧ RSame σ σ' := by
  have hn := h.forms.2.1
  unfold fX11_costsOf
  obtain ⟨s, b1, b2, b3, b4⟩ := meant_ok h.forms h.lk hw
  have hs := h.same b2 b3 b4
  have hmm := mnN_lt (F := A.F) hn (nI w)
  rw [b1, cl_s, mnR_mnr]
  unfold cstW
  by_cases e : mnN A.F A.n (nI w) < A.n
  case neg =>
    rw [if_pos ((mnr_neg _ hmm.1).mpr (by omega)), if_neg e]
    exact ⟨s, rfl, hs, b2⟩
  have hf := hs.forms.2.2 _ e
  have hk := hf.2.1
  obtain ⟨s2, c1, c2, c3⟩ := firstOf_ok hs hw e
  have hf2 := (c2.forms.2.2 _ e).1
  rw [if_neg (fun z => absurd ((mnr_neg _ hmm.1).mp z) (by omega)), if_pos e, mnr_f _ (by omega), fieldsOf_ok hf.1, cl_s, lt_e, c1, cl_s, ck_t (inb_nI (show mnN A.F A.n (nI w) < 12 by omega) (by decide)), ix_nI (by omega), hf2.2.1]
  refine ⟨s2, ?_, c2, RSame.trans b2 c3⟩
  unfold costP
  generalize hg : A.F (mnN A.F A.n (nI w)) = f at *
  have e1 : (nI (fkd f) = (1 : Int32)) ↔ fkd f = 1 := kdeq (c := 1) hk (by decide)
  have e2 : (nI (fkd f) = (2 : Int32)) ↔ fkd f = 2 := kdeq (c := 2) hk (by decide)
  have e3 : (nI (fkd f) = (3 : Int32)) ↔ fkd f = 3 := kdeq (c := 3) hk (by decide)
  have e4 : (nI (fkd f) = (4 : Int32)) ↔ fkd f = 4 := kdeq (c := 4) hk (by decide)
  have e5 : (nI (fkd f) = (5 : Int32)) ↔ fkd f = 5 := kdeq (c := 5) hk (by decide)
  have e6 : (nI (fkd f) = (6 : Int32)) ↔ fkd f = 6 := kdeq (c := 6) hk (by decide)
  simp only [e1, e2, e3, e4, e5, e6]
  split
  · rfl
  · split
    · rfl
    · split
      · rfl
      · split
        · rfl
        · split
          · rfl
          · split
            · unfold iabs
              by_cases z : firstP f (nI w) < 0
              · rw [if_pos z, if_neg (by rw [Int32.not_le]; exact z)]
                rw [Int32.zero_sub]
              · rw [if_neg z, if_pos (by rw [Int32.not_lt] at z; exact z)]
            · rfl
theorem rs_costs (a : Int32) : RS (fun σ => fX11_costs σ a) (gCosts a) := by
  intro σ A h
  show ∃ σ', fX11_costs σ a = _ ∧ _
  unfold fX11_costs gCosts
  rw [rword, cl_s]
  by_cases c : 0 ≤ a ∧ a ≤ 4095
  case neg => rw [if_neg c, if_neg c, if_pos rfl]; exact rbad h
  obtain ⟨w, hw, rfl⟩ := word_of c
  obtain ⟨s, b1, b2, b3⟩ := costsOf_ok h hw
  rw [if_pos c, if_neg (by decide), if_pos c, b1, cl_s]
  exact ⟨s, rfl, b2, b3.lo⟩
