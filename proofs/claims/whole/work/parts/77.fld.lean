/-! ===== field, taken, laid, make ===== -/
def plc (f : Fm) (l : Nat) : Option Nat := fndF (fun i => decide ((lts f)[i]? = some l)) 0 (lts f).length
def gField (a b c : Int32) (A : Ab) : Int32 × Ab := if (0 ≤ a ∧ a < nI A.n) ∧ (0 ≤ b ∧ b ≤ 7) ∧ (0 ≤ c ∧ c ≤ 2) then (if 0 < cnt (fl (A.F (ix a)) (ix b)) 12 then (if c = 0 then nI (cnt (fl (A.F (ix a)) (ix b)) 12) else if c = 1 then mkS (fl (A.F (ix a)) (ix b)) 12 else ansO (plc (A.F (ix a)) (ix b))) else -1, A) else bad A
theorem placeOf_ok {σ : Mem} {k : Nat} {f : Fm} (h : CForm σ k f) {l : Nat} (hl : l < 8) : fX3_placeOf k σ (nI l) = some (ansO (plc f l), σ) := by
  have hlen := lts_len8 f
  unfold fX3_placeOf
  refine loopX (fX3_placeOf_L2 (fun (x6 : Int32) => some (x6, σ)) (some ((-1 : Int32), σ)) σ k (nI l)) (fX3_placeOf_L2_b (fun (x6 : Int32) => some (x6, σ)) (some ((-1 : Int32), σ)) σ k (nI l)) (fun _ _ => rfl) (lts f).length
    (fun i => plc f l = fndF (fun i => decide ((lts f)[i]? = some l)) i ((lts f).length - i))
    (fun r => r = some (ansO (plc f l), σ)) ?_ ?_ 5000 0 (by omega) (by omega) rfl
  · intro rec e
    unfold fX3_placeOf_L2_b
    rw [h.2.2.1.1, if_neg (nI_nlt (Nat.le_refl _) (by omega)), e, Nat.sub_self]; rfl
  · intro i rec hi e
    unfold fX3_placeOf_L2_b
    have hm : (lts f)[i] < 8 := (lts_mem.mp (List.getElem_mem hi)).1
    rw [h.2.2.1.1, if_pos (nI_lt hi (by omega)), ck_t (inb_nI (show i < 8 by omega) (by decide)), ix_nI (by omega), h.2.2.1.2 i hi, nI_1]
    rw [show (lts f).length - i = ((lts f).length - (i + 1)) + 1 by omega, fndF] at e
    by_cases z : (lts f)[i] = l
    · left
      rw [if_pos (by rw [z])]
      rw [if_pos (by simp [hi, z])] at e
      rw [e]; rfl
    · right
      rw [if_neg (fun y => z ((nI_eq (by omega) (by omega)).mp y))]
      rw [if_neg (by simp [hi, z])] at e
      exact ⟨e, rfl⟩
theorem cs_field (a b c : Int32) : CS (fun σ => fX10_field σ a b c) (gField a b c) := by
  intro σ A h
  show ∃ σ', fX10_field σ a b c = _ ∧ _
  unfold fX10_field gField
  rw [has4 h, cl_s, lt_e]
  by_cases c1 : 0 ≤ a ∧ a < nI A.n
  case neg => rw [if_neg c1, if_pos rfl, if_neg (fun z => c1 z.1)]; exact cbad h
  rw [if_pos c1, if_neg (by decide), cletter, cl_s]
  by_cases c2 : 0 ≤ b ∧ b ≤ 7
  case neg => rw [if_neg c2, if_pos rfl, if_neg (fun z => c2 z.2.1)]; exact cbad h
  rw [if_pos c2, if_neg (by decide), within_ok, cl_s]
  by_cases c3 : 0 ≤ c ∧ c ≤ 2
  case neg => rw [if_neg c3, if_pos rfl, if_neg (fun z => c3 z.2.2)]; exact cbad h
  rw [if_pos c3, if_neg (by decide), if_pos (show (0 ≤ a ∧ a < nI A.n) ∧ (0 ≤ b ∧ b ≤ 7) ∧ (0 ≤ c ∧ c ≤ 2) from ⟨c1, c2, c3⟩)]
  have hn := h.mean.1.2.1
  obtain ⟨i, hi, rfl⟩ := rng c1.1 c1.2 (by omega)
  obtain ⟨l, hl, rfl⟩ := rngL (n := 7) c2 (by decide)
  have hf := (h.mean.1.2.2 i hi).1
  obtain ⟨_, f2, f3, _, f4⟩ := hf.2.1 l (by omega)
  rw [ck_t (inb_nI (show i < 12 by omega) (by decide)), ck_t (inb_nI (show l < 8 by omega) (by decide)), ix_nI (by omega), ix_nI (by omega), f2, f3, placeOf_ok hf (by omega), cl_s]
  refine ⟨σ, ?_, h, fun _ _ => rfl⟩
  by_cases e : 0 < cnt (fl (A.F i) l) 12
  · rw [if_neg (nI_ne0 e (by omega)), if_pos e]
    by_cases d0 : c = 0
    · rw [if_pos d0, if_pos d0]
    · rw [if_neg d0, if_neg d0]
      by_cases d1 : c = 1
      · rw [if_pos d1, if_pos d1]
      · rw [if_neg d1, if_neg d1]
  · have : cnt (fl (A.F i) l) 12 = 0 := by omega
    rw [if_neg e, if_pos (by rw [this]; rfl)]
theorem rs_field (a b c : Int32) : RS (fun σ => fX11_field σ a b c) (gField a b c) := by
  intro σ A h
  show ∃ σ', fX11_field σ a b c = _ ∧ _
  unfold fX11_field gField
  rw [isForm_ok h, cl_s, lt_e]
  by_cases c1 : 0 ≤ a ∧ a < nI A.n
  case neg => rw [if_neg c1, if_pos rfl, if_neg (fun z => c1 z.1)]; exact rbad h
  rw [if_pos c1, if_neg (by decide), isInI σ b 0 7 0 7 rfl rfl, cl_s]
  by_cases c2 : 0 ≤ b ∧ b ≤ 7
  case neg => rw [if_neg c2, if_pos rfl, if_neg (fun z => c2 z.2.1)]; exact rbad h
  rw [if_pos c2, if_neg (by decide), isInI σ c 0 2 0 2 rfl rfl, cl_s]
  by_cases c3 : 0 ≤ c ∧ c ≤ 2
  case neg => rw [if_neg c3, if_pos rfl, if_neg (fun z => c3 z.2.2)]; exact rbad h
  rw [if_pos c3, if_neg (by decide), if_pos (show (0 ≤ a ∧ a < nI A.n) ∧ (0 ≤ b ∧ b ≤ 7) ∧ (0 ≤ c ∧ c ≤ 2) from ⟨c1, c2, c3⟩)]
  have hn := h.forms.2.1
  obtain ⟨i, hi, rfl⟩ := rng c1.1 c1.2 (by omega)
  obtain ⟨l, hl, rfl⟩ := rngL (n := 7) c2 (by decide)
  have hf := (h.forms.2.2 i hi).1
  have h8 := (h.forms.2.2 i hi).2.2.2.1 l (by omega)
  have hlen := lts_len8 (A.F i)
  rw [bitsOf_ok hf.1 (by omega), cl_s, ix_nI (by omega), ix_nI (by omega)]
  show ∃ σ', (if mkS (fl (A.F i) l) 12 = 0 then _ else _) = _ ∧ _
  by_cases e : 0 < cnt (fl (A.F i) l) 12
  case neg =>
    rw [if_pos (mkS0.mpr e), if_neg e]
    exact ⟨σ, rfl, h, fun _ _ => rfl⟩
  rw [if_neg (fun z => mkS0.mp z e), if_pos e]
  have hmem : l ∈ lts (A.F i) := lts_mem.mpr ⟨by omega, e⟩
  refine loopM (fX11_field_L58 (fun (m20 : Mem) (x21 : Int32) => if c = (0 : Int32) then (cl (fX11_size m20 (mkS (fl (A.F i) l) 12)) <| fun r23 m22 => some (r23, m22)) else if c = (1 : Int32) then some (mkS (fl (A.F i) l) 12, m20) else some (x21, m20)) (nI i) (nI l) c (mkS (fl (A.F i) l) 12)) (fX11_field_L58_b (fun (m20 : Mem) (x21 : Int32) => if c = (0 : Int32) then (cl (fX11_size m20 (mkS (fl (A.F i) l) 12)) <| fun r23 m22 => some (r23, m22)) else if c = (1 : Int32) then some (mkS (fl (A.F i) l) 12, m20) else some (x21, m20)) (nI i) (nI l) c (mkS (fl (A.F i) l) 12)) (fun _ _ _ => rfl) (lts (A.F i)).length
    (fun j m => m = σ ∧ plc (A.F i) l = fndF (fun j => decide ((lts (A.F i))[j]? = some l)) j ((lts (A.F i)).length - j))
    (fun r => ∃ σ', r = some (if c = 0 then nI (cnt (fl (A.F i) l) 12) else if c = 1 then mkS (fl (A.F i) l) 12 else ansO (plc (A.F i) l), σ') ∧ RInv σ' A ∧ Lo σ σ') ?_ ?_ 5000 0 σ (by omega) (by omega) ⟨rfl, rfl⟩
  · rintro m rec ⟨rfl, e2⟩
    rw [Nat.sub_self, fndF] at e2
    obtain ⟨j, hj, ej⟩ := List.mem_iff_getElem.mp hmem
    have := fndF_none e2 j (by omega) (by omega)
    simp [hj, ej] at this
  · rintro j m rec hj ⟨rfl, e2⟩
    unfold fX11_field_L58_b
    have hm : (lts (A.F i))[j] < 8 := (lts_mem.mp (List.getElem_mem hj)).1
    have hg : (lts (A.F i))[j]? = some (lts (A.F i))[j] := by simp
    rw [fieldAt_ok hf (by omega), cl_s, hg, nI_1]
    rw [show (lts (A.F i)).length - j = ((lts (A.F i)).length - (j + 1)) + 1 by omega, fndF] at e2
    show (∃ σ', (if nI (lts (A.F i))[j] = nI l then _ else _) = _ ∧ _) ∨ _
    by_cases z : (lts (A.F i))[j] = l
    · left
      rw [if_pos (by rw [z])]
      rw [if_pos (by simp [hj, z])] at e2
      refine ⟨m, ?_, h, fun _ _ => rfl⟩
      show (if c = 0 then _ else _) = _
      rw [size_ok, cl_s, cnt_mkS _ (by decide), e2]
      by_cases d0 : c = 0
      · rw [if_pos d0, if_pos d0]
      · rw [if_neg d0, if_neg d0]
        by_cases d1 : c = 1
        · rw [if_pos d1, if_pos d1]
        · rw [if_neg d1, if_neg d1]; rfl
    · right
      rw [if_neg (by simp [hj, z])] at e2
      refine ⟨m, ⟨rfl, e2⟩, ?_⟩
      show (if nI (lts (A.F i))[j] = nI l then _ else _) = _
      rw [if_neg (fun y => z ((nI_eq (by omega) (by omega)).mp y))]
/-- taken, laid -/
abbrev isFd (A : Ab) (a b : Int32) : Prop := (0 ≤ a ∧ a < nI A.n) ∧ (0 ≤ b ∧ b ≤ 7) ∧ 0 < cnt (fl (A.F (ix a)) (ix b)) 12
def gTaken (a b w : Int32) (A : Ab) : Int32 × Ab := if isFd A a b ∧ (0 ≤ w ∧ w ≤ 4095) then (num (A.F (ix a)) (ix b) w, A) else bad A
def gLaid (a b w v : Int32) (A : Ab) : Int32 × Ab := if (isFd A a b ∧ (0 ≤ w ∧ w ≤ 4095)) ∧ canP (cnt (fl (A.F (ix a)) (ix b)) 12) (decide (3 < ix b)) v = true then (laP (fl (A.F (ix a)) (ix b)) w v, A) else bad A
theorem hasField_ok {σ : Mem} {A : Ab} (h : CInv σ A) (a b : Int32) : fX10_hasField σ a b = some (if isFd A a b then 1 else 0, σ) := by
  unfold fX10_hasField isFd
  rw [has4 h, cl_s]
  by_cases c1 : 0 ≤ a ∧ a < nI A.n
  case neg => rw [if_neg c1, if_pos rfl, if_neg (fun z => c1 z.1)]
  rw [if_pos c1, if_neg (by decide), cletter, cl_s]
  by_cases c2 : 0 ≤ b ∧ b ≤ 7
  case neg => rw [if_neg c2, if_pos rfl, if_neg (fun z => c2 z.2.1)]
  rw [if_pos c2, if_neg (by decide)]
  have hn := h.mean.1.2.1
  obtain ⟨i, hi, rfl⟩ := rng c1.1 c1.2 (by omega)
  obtain ⟨l, hl, rfl⟩ := rngL (n := 7) c2 (by decide)
  have hf := (h.mean.1.2.2 i hi).1
  obtain ⟨_, f2, f3, _, f4⟩ := hf.2.1 l (by omega)
  rw [ck_t (inb_nI (show i < 12 by omega) (by decide)), ck_t (inb_nI (show l < 8 by omega) (by decide)), ix_nI (by omega), ix_nI (by omega), f2]
  by_cases e : 0 < cnt (fl (A.F i) l) 12
  · rw [if_pos (show (0 : Int32) < nI _ from nI_lt (a := 0) e (by omega)), if_pos ⟨c1, c2, e⟩]
  · rw [if_neg (show ¬ (0 : Int32) < nI _ from nI_nlt (a := 0) (by omega) (by omega)), if_neg (fun z => e z.2.2)]
theorem cs_taken (a b w : Int32) : CS (fun σ => fX10_taken σ a b w) (gTaken a b w) := by
  intro σ A h
  show ∃ σ', fX10_taken σ a b w = _ ∧ _
  unfold fX10_taken gTaken
  rw [hasField_ok h, cl_s, lt_e]
  by_cases c1 : isFd A a b
  case neg => rw [if_neg c1, if_pos rfl, if_neg (fun z => c1 z.1)]; exact cbad h
  rw [if_pos c1, if_neg (by decide), cword, cl_s]
  by_cases c2 : 0 ≤ w ∧ w ≤ 4095
  case neg => rw [if_neg c2, if_pos rfl, if_neg (fun z => c2 z.2)]; exact cbad h
  rw [if_pos c2, if_neg (by decide), if_pos (show isFd A a b ∧ (0 ≤ w ∧ w ≤ 4095) from ⟨c1, c2⟩)]
  have hn := h.mean.1.2.1
  obtain ⟨d1, d2, d3⟩ := c1
  obtain ⟨i, hi, rfl⟩ := rng d1.1 d1.2 (by omega)
  obtain ⟨l, hl, rfl⟩ := rngL (n := 7) d2 (by decide)
  rw [ix_nI (by omega), ix_nI (by omega)] at d3
  rw [ck_t (inb_nI (show i < 12 by omega) (by decide)), ck_t (inb_nI (show l < 8 by omega) (by decide)), ix_nI (by omega), ix_nI (by omega), cnum_ok (h.mean.1.2.2 i hi).1 (by omega) d3, cl_s]
  exact ⟨σ, rfl, h, fun _ _ => rfl⟩
theorem cs_laid (a b w v : Int32) : CS (fun σ => fX10_laid σ a b w v) (gLaid a b w v) := by
  intro σ A h
  show ∃ σ', fX10_laid σ a b w v = _ ∧ _
  unfold fX10_laid gLaid
  rw [hasField_ok h, cl_s, lt_e]
  by_cases c1 : isFd A a b
  case neg => rw [if_neg c1, if_pos rfl, if_neg (fun z => c1 z.1.1)]; exact cbad h
  rw [if_pos c1, if_neg (by decide), cword, cl_s]
  by_cases c2 : 0 ≤ w ∧ w ≤ 4095
  case neg => rw [if_neg c2, if_pos rfl, if_neg (fun z => c2 z.1.2)]; exact cbad h
  rw [if_pos c2, if_neg (by decide)]
  have hn := h.mean.1.2.1
  have hc := c1
  obtain ⟨d1, d2, d3⟩ := c1
  obtain ⟨i, hi, rfl⟩ := rng d1.1 d1.2 (by omega)
  obtain ⟨l, hl, rfl⟩ := rngL (n := 7) d2 (by decide)
  obtain ⟨u, hu, rfl⟩ := word_of c2
  rw [ix_nI (by omega), ix_nI (by omega)] at d3
  have hfd := (h.mean.1.2.2 i hi).1.2.1 l (by omega)
  simp only [ix_nI (show i < 2 ^ 31 by omega), ix_nI (show l < 2 ^ 31 by omega)]
  rw [ck_t (inb_nI (show i < 12 by omega) (by decide)), ck_t (inb_nI (show l < 8 by omega) (by decide)), canHold_ok hfd d3, cl_s, putInto_ok hfd _ _ (isW_nI hu), cl_s]
  by_cases e : canP (cnt (fl (A.F i) l) 12) (decide (3 < l)) v = true
  · rw [if_pos e, if_neg (by decide), if_pos ⟨⟨hc, c2⟩, e⟩]
    exact ⟨σ, rfl, h, fun _ _ => rfl⟩
  · rw [if_neg e, if_pos rfl, if_neg (fun z => e z.2)]
    exact cbad h
theorem isField_ok {σ : Mem} {A : Ab} (h : RInv σ A) {i : Nat} (hi : i < A.n) (b : Int32) : fX11_isField σ (nI i) b = some (if isFd A (nI i) b then 1 else 0, σ) := by
  have hn := h.forms.2.1
  have c1 : 0 ≤ nI i ∧ nI i < nI A.n := ⟨nI_pos' (by omega), nI_lt hi (by omega)⟩
  unfold fX11_isField isFd
  rw [isInI σ b 0 7 0 7 rfl rfl, cl_s]
  by_cases c2 : 0 ≤ b ∧ b ≤ 7
  case neg => rw [if_neg c2, if_pos rfl, if_neg (fun z => c2 z.2.1)]
  rw [if_pos c2, if_neg (by decide)]
  obtain ⟨l, hl, rfl⟩ := rngL (n := 7) c2 (by decide)
  have hf := (h.forms.2.2 i hi).1
  rw [bitsOf_ok hf.1 (by omega), cl_s, ix_nI (by omega), ix_nI (by omega)]
  by_cases e : 0 < cnt (fl (A.F i) l) 12
  · rw [if_neg (fun z => mkS0.mp z e), if_pos ⟨c1, c2, e⟩]
  · rw [if_pos (mkS0.mpr e), if_neg (fun z => e z.2.2)]
theorem rs_taken (a b w : Int32) : RS (fun σ => fX11_taken σ a b w) (gTaken a b w) := by
  intro σ A h
  show ∃ σ', fX11_taken σ a b w = _ ∧ _
  unfold fX11_taken gTaken
  rw [isForm_ok h, cl_s, lt_e]
  by_cases c0 : 0 ≤ a ∧ a < nI A.n
  case neg => rw [if_neg c0, if_pos rfl, if_neg (fun z => c0 z.1.1)]; exact rbad h
  have hn := h.forms.2.1
  obtain ⟨i, hi, rfl⟩ := rng c0.1 c0.2 (by omega)
  rw [if_pos c0, if_neg (by decide), isField_ok h hi, cl_s]
  by_cases c1 : isFd A (nI i) b
  case neg => rw [if_neg c1, if_pos rfl, if_neg (fun z => c1 z.1)]; exact rbad h
  rw [if_pos c1, if_neg (by decide), rword, cl_s]
  by_cases c2 : 0 ≤ w ∧ w ≤ 4095
  case neg => rw [if_neg c2, if_pos rfl, if_neg (fun z => c2 z.2)]; exact rbad h
  rw [if_pos c2, if_neg (by decide), if_pos (show isFd A (nI i) b ∧ (0 ≤ w ∧ w ≤ 4095) from ⟨c1, c2⟩)]
  obtain ⟨d1, d2, d3⟩ := c1
  obtain ⟨l, hl, rfl⟩ := rngL (n := 7) d2 (by decide)
  rw [ix_nI (by omega), ix_nI (by omega)] at d3
  rw [ix_nI (by omega), ix_nI (by omega), rnum_ok (h.forms.2.2 i hi).1 (h.forms.2.2 i hi).2 (by omega) d3, cl_s]
  exact ⟨σ, rfl, h, fun _ _ => rfl⟩
theorem rs_laid (a b w v : Int32) : RS (fun σ => fX11_laid σ a b w v) (gLaid a b w v) := by
  intro σ A h
  show ∃ σ', fX11_laid σ a b w v = _ ∧ _
  unfold fX11_laid gLaid
  simp only [lt_e]
  rw [isForm_ok h, cl_s]
  by_cases c0 : 0 ≤ a ∧ a < nI A.n
  case neg => rw [if_neg c0, if_pos rfl, if_pos trivial, if_neg (fun z => c0 z.1.1.1)]; exact rbad h
  have hn := h.forms.2.1
  obtain ⟨i, hi, rfl⟩ := rng c0.1 c0.2 (by omega)
  rw [if_pos c0, if_neg (by decide), isField_ok h hi, cl_s]
  by_cases c1 : isFd A (nI i) b
  case neg => rw [if_neg c1, if_pos rfl, if_pos trivial, if_neg (fun z => c1 z.1.1)]; exact rbad h
  rw [if_pos c1, if_neg (by decide), rword, cl_s]
  by_cases c2 : 0 ≤ w ∧ w ≤ 4095
  case neg => rw [if_neg c2, if_pos rfl, if_pos trivial, if_neg (fun z => c2 z.1.2)]; exact rbad h
  rw [if_pos c2, if_neg (by decide)]
  have hc := c1
  obtain ⟨d1, d2, d3⟩ := c1
  obtain ⟨l, hl, rfl⟩ := rngL (n := 7) d2 (by decide)
  obtain ⟨u, hu, rfl⟩ := word_of c2
  rw [ix_nI (by omega), ix_nI (by omega)] at d3
  have hf := h.forms.2.2 i hi
  simp only [ix_nI (show i < 2 ^ 31 by omega), ix_nI (show l < 2 ^ 31 by omega)]
  rw [canStand_ok hf.1.1 (by omega) d3 (hf.2.2.2.1 l (by omega)), cl_s, laidIn_ok hf.1.1 (by omega) _ _ (isW_nI hu), cl_s]
  show ∃ σ', (if (if canP (cnt (fl (A.F i) l) 12) (decide (3 < l)) v = true then (1 : Int32) else 0) = 0 then _ else _) = _ ∧ _
  by_cases e : canP (cnt (fl (A.F i) l) 12) (decide (3 < l)) v = true
  · rw [if_pos e, if_neg (by decide), if_neg (by decide), if_pos ⟨⟨hc, c2⟩, e⟩]
    exact ⟨σ, rfl, h, fun _ _ => rfl⟩
  · rw [if_neg e, if_pos rfl, if_pos trivial, if_neg (fun z => e z.2)]
    exact rbad h
