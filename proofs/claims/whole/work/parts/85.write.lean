/-! ===== write ===== -/
theorem shr255 {c s : Nat} (hc : c < 2 ^ 31) (hs : s + 8 ≤ 32) : (nI c >>> (nI s &&& 31)) &&& 255 = nI (c / 2 ^ s % 256) := by
  apply bt_ext
  intro i hi
  rw [bt_and, bt255, bt_nI (by omega), show (256 : Nat) = 2 ^ 8 from rfl, Nat.testBit_mod_two_pow, Nat.testBit_div_two_pow]
  by_cases h : i < 8
  · rw [bt_shr (by omega) _ (by omega), bt_nI (by omega)]; simp [h]
  · simp [h]
theorem nameStep {σ : Mem} {L : List Int32} (h : CL σ L) (hL : L.length < 64) {c s : Nat} (hc : c < 2 ^ 31) (hs : s + 8 ≤ 32) (kk : Mem → Option (Unit × Mem)) (n : Nat) :
    ∃ σ', fX0_addName_L3 kk 1 (nI c) (n + 1) σ (nI s) = fX0_addName_L3 kk 1 (nI c) n σ' (nI s + (-8)) ∧ CL σ' (L ++ if c / 2 ^ s % 256 = 0 then [] else [nI (c / 2 ^ s % 256)]) ∧ Nc σ σ' := by
  show ∃ σ', fX0_addName_L3_b kk 1 (nI c) (fX0_addName_L3 kk 1 (nI c) n) σ (nI s) = _ ∧ _
  unfold fX0_addName_L3_b
  rw [if_neg (nI_pos (by omega)), shr255 hc hs]
  simp only [lt_e]
  by_cases e : c / 2 ^ s % 256 = 0
  · rw [if_pos (show nI (c / 2 ^ s % 256) = 0 by rw [e]; rfl), if_pos e, List.append_nil]
    exact ⟨σ, rfl, h, fun _ _ _ => rfl⟩
  · obtain ⟨t, a1, a2, a3⟩ := add_ok h hL (nI (c / 2 ^ s % 256))
    rw [if_neg (nI_ne0 (by omega) (by omega)), a1, cl_s, if_neg e]
    exact ⟨t, rfl, a2, a3⟩
def nameL (f : Fm) : List Int32 := [nI (fnm f 0)] ++ ((if fnm f 1 = 0 then [] else [nI (fnm f 1)]) ++ (if fnm f 2 = 0 then [] else [nI (fnm f 2)]))
theorem nameL_len (f : Fm) : (nameL f).length ≤ 3 := by
  unfold nameL
  rw [List.length_append, List.length_append]
  have h1 : (if fnm f 1 = 0 then [] else [nI (fnm f 1)]).length ≤ 1 := by split <;> simp
  have h2 : (if fnm f 2 = 0 then [] else [nI (fnm f 2)]).length ≤ 1 := by split <;> simp
  simp only [List.length_cons, List.length_nil]
  omega
theorem addName_ok {σ : Mem} {L : List Int32} (h : CL σ L) (hL : L.length < 60) {f : Fm} (hN : Nok f) : ∃ σ', fX0_addName 1 σ (nI (nmC f)) = some ((), σ') ∧ CL σ' (L ++ nameL f) ∧ Nc σ σ' := by
  have hlt := nm3_lt hN.nm
  rw [← nmC_nm3] at hlt
  have hc : nmC f < 2 ^ 31 := by omega
  unfold fX0_addName
  obtain ⟨s1, a1, a2, a3⟩ := nameStep (s := 16) h (by omega) hc (by decide) (fun m6 => some ((), m6)) 4999
  have l1 : (L ++ if nmC f / 2 ^ 16 % 256 = 0 then [] else [nI (nmC f / 2 ^ 16 % 256)]).length ≤ L.length + 1 := by rw [List.length_append]; split <;> simp
  obtain ⟨s2, b1, b2, b3⟩ := nameStep (s := 8) a2 (by omega) hc (by decide) (fun m6 => some ((), m6)) 4998
  have l2 : ((L ++ if nmC f / 2 ^ 16 % 256 = 0 then [] else [nI (nmC f / 2 ^ 16 % 256)]) ++ if nmC f / 2 ^ 8 % 256 = 0 then [] else [nI (nmC f / 2 ^ 8 % 256)]).length ≤ L.length + 2 := by
    rw [List.length_append]
    have : (if nmC f / 2 ^ 8 % 256 = 0 then [] else [nI (nmC f / 2 ^ 8 % 256)]).length ≤ 1 := by split <;> simp
    omega
  obtain ⟨s3, c1, c2, c3⟩ := nameStep (s := 0) b2 (by omega) hc (by decide) (fun m6 => some ((), m6)) 4997
  refine ⟨s3, ?_, ?_, a3.tr (b3.tr c3)⟩
  · rw [show (16 : Int32) = nI 16 from rfl, a1, show nI 16 + (-8) = nI 8 from rfl, b1, show nI 8 + (-8) = nI 0 from rfl, c1]; rfl
  · have h1 := hN.1; have h2 := hN.2.1; have h3 := hN.2.2.1; have h4 := hN.2.2.2
    unfold Ltr at h1 h2 h3
    have : L ++ nameL f = ((L ++ if nmC f / 2 ^ 16 % 256 = 0 then [] else [nI (nmC f / 2 ^ 16 % 256)]) ++ if nmC f / 2 ^ 8 % 256 = 0 then [] else [nI (nmC f / 2 ^ 8 % 256)]) ++ if nmC f / 2 ^ 0 % 256 = 0 then [] else [nI (nmC f / 2 ^ 0 % 256)] := by
      unfold nameL
      by_cases y : fnm f 1 = 0
      · have ec : nmC f = fnm f 0 := by rw [nmC_nm3]; unfold nm3; rw [if_pos y]
        rw [ec, h4 y, y]
        have q1 : fnm f 0 / 2 ^ 16 % 256 = 0 := by omega
        have q2 : fnm f 0 / 2 ^ 8 % 256 = 0 := by omega
        have q3 : fnm f 0 / 2 ^ 0 % 256 = fnm f 0 := by omega
        rw [q1, q2, q3, if_neg (show ¬ fnm f 0 = 0 by omega)]
        simp
      · by_cases z : fnm f 2 = 0
        · have ec : nmC f = fnm f 0 * 256 + fnm f 1 := by rw [nmC_nm3]; unfold nm3; rw [if_neg y, if_pos z]
          rw [ec, z]
          have q1 : (fnm f 0 * 256 + fnm f 1) / 2 ^ 16 % 256 = 0 := by omega
          have q2 : (fnm f 0 * 256 + fnm f 1) / 2 ^ 8 % 256 = fnm f 0 := by omega
          have q3 : (fnm f 0 * 256 + fnm f 1) / 2 ^ 0 % 256 = fnm f 1 := by omega
          rw [q1, q2, q3, if_neg (show ¬ fnm f 0 = 0 by omega), if_neg y]
          simp
        · have ec : nmC f = (fnm f 0 * 256 + fnm f 1) * 256 + fnm f 2 := by rw [nmC_nm3]; unfold nm3; rw [if_neg y, if_neg z]
          rw [ec]
          have q1 : ((fnm f 0 * 256 + fnm f 1) * 256 + fnm f 2) / 2 ^ 16 % 256 = fnm f 0 := by omega
          have q2 : ((fnm f 0 * 256 + fnm f 1) * 256 + fnm f 2) / 2 ^ 8 % 256 = fnm f 1 := by omega
          have q3 : ((fnm f 0 * 256 + fnm f 1) * 256 + fnm f 2) / 2 ^ 0 % 256 = fnm f 2 := by omega
          rw [q1, q2, q3, if_neg (show ¬ fnm f 0 = 0 by omega), if_neg y, if_neg z]
          simp
    rw [this]; exact c2
def fldL (f : Fm) (w : Int32) : Nat → List Int32
  | 0 => []
  | i + 1 => fldL f w i ++ ([32] ++ numL (num f ((lts f).getD i 0) w))
theorem fldL_len (f : Fm) (w : Int32) : ∀ i, (fldL f w i).length ≤ 6 * i
  | 0 => Nat.le_refl _
  | i + 1 => by
    rw [fldL, List.length_append, List.length_append]
    have := fldL_len f w i
    have := numL_len (num f ((lts f).getD i 0) w)
    simp only [List.length_cons, List.length_nil]
    omega
def linL (A : Ab) (w : Int32) : List Int32 := if mnN A.F A.n w < A.n then nameL (A.F (mnN A.F A.n w)) ++ fldL (A.F (mnN A.F A.n w)) w (lts (A.F (mnN A.F A.n w))).length else [if mnN A.F A.n w = 12 then 63 else 33] ++ numL w
theorem linL_len (A : Ab) (w : Int32) : (linL A w).length ≤ 51 := by
  unfold linL
  split
  · rw [List.length_append]
    have := nameL_len (A.F (mnN A.F A.n w))
    have := fldL_len (A.F (mnN A.F A.n w)) w (lts (A.F (mnN A.F A.n w))).length
    have := lts_len8 (A.F (mnN A.F A.n w))
    omega
  · rw [List.length_append]
    have := numL_len w
    simp only [List.length_cons, List.length_nil]
    omega
def gWrite (a : Int32) (A : Ab) : Int32 × Ab := if 0 ≤ a ∧ a ≤ 4095 then (nI (linL A a).length, setL A (linL A a).length (fun i => (linL A a).getD i 0)) else bad A
theorem CL.line {σ : Mem} {L : List Int32} (h : CL σ L) (hL : L.length ≤ 64) : CLine σ L.length (fun i => L.getD i 0) := ⟨h.1, hL, fun i hi => by rw [h.2 i hi]; simp [hi]⟩
theorem RLn.line {σ : Mem} {L : List Int32} (h : RLn σ L) (hL : L.length ≤ 64) : RLine σ L.length (fun i => L.getD i 0) := ⟨h.1, hL, fun i hi => by rw [h.2 i hi]; simp [hi]⟩
theorem writeForm_ok {σ : Mem} {i : Nat} (hi : i < 12) {f : Fm} (h : CForm σ (11 + 22 * i) f) (hf : Fok f) (hN : Nok f) (h0 : CL σ []) (w : Int32) : ∃ σ', fX10_writeForm σ (11 + 22 * i) w = some ((), σ') ∧ CL σ' (nameL f ++ fldL f w (lts f).length) ∧ Nc σ σ' := by
  have hlen := lts_len8 f
  have hnl := nameL_len f
  unfold fX10_writeForm
  obtain ⟨s, a1, a2, a3⟩ := addName_ok h0 (by decide) hN
  rw [List.nil_append] at a2
  rw [h.1.2.1, a1, cl_s]
  refine loopM (fX10_writeForm_L13 (fun (m7 : Mem) => some ((), m7)) (11 + 22 * i) w) (fX10_writeForm_L13_b (fun (m7 : Mem) => some ((), m7)) (11 + 22 * i) w) (fun _ _ _ => rfl) (lts f).length
    (fun k m => CL m (nameL f ++ fldL f w k) ∧ Nc σ m)
    (fun r => ∃ σ', r = some ((), σ') ∧ CL σ' (nameL f ++ fldL f w (lts f).length) ∧ Nc σ σ') ?_ ?_ 5000 0 s (by omega) (by omega) ⟨by rw [fldL, List.append_nil]; exact a2, a3⟩
  · rintro m rec ⟨h1, h2⟩
    unfold fX10_writeForm_L13_b
    rw [h2 _ (by omega) (by omega), h.2.2.1.1, if_neg (nI_nlt (Nat.le_refl _) (by omega))]
    exact ⟨m, rfl, h1, h2⟩
  · rintro k m rec hk ⟨h1, h2⟩
    right
    unfold fX10_writeForm_L13_b
    have hm := lts_mem.mp (List.getElem_mem hk)
    have hl1 := fldL_len f w k
    obtain ⟨m1, b1, b2, b3⟩ := add_ok h1 (by rw [List.length_append]; omega) 32
    have hc1 : CForm m1 (11 + 22 * i) f := h.congr (fun q x y => by rw [b3 q (by omega) (by omega), h2 q (by omega) (by omega)])
    obtain ⟨c1, c2⟩ := cfieldAt_ok hi hc1 hk
    have hrg := num_rg (f := f) (l := (lts f)[k]) (hf.2.2.1 _ hm.1) w
    obtain ⟨m2, d1, d2, d3⟩ := addNumber_ok b2 (by rw [List.length_append, List.length_append]; simp only [List.length_cons, List.length_nil]; omega) hrg
    rw [h2 _ (by omega) (by omega), h.2.2.1.1, if_pos (nI_lt hk (by omega)), b1, cl_s, c1, cl_s, ck_t c2, cnum_ok hc1 hm.1 hm.2, cl_s, d1, cl_s, nI_1]
    refine ⟨m2, ⟨?_, h2.tr (b3.tr d3)⟩, rfl⟩
    have : (lts f).getD k 0 = (lts f)[k] := by simp [hk]
    rw [fldL, this, ← List.append_assoc, ← List.append_assoc]; exact d2
theorem cs_write (a : Int32) : CSa (fun σ => fX10_write σ a) (gWrite a) := by
  intro σ A h ha
  show ∃ σ', fX10_write σ a = _ ∧ _
  unfold fX10_write gWrite
  rw [cword, cl_s]
  by_cases c : 0 ≤ a ∧ a ≤ 4095
  case neg => rw [if_neg c, if_neg c, if_pos rfl]; exact cbad h
  have hn := h.mean.1.2.1
  obtain ⟨w, hw, rfl⟩ := word_of c
  obtain ⟨s, b1, b2⟩ := meaning_ex h.mean hw
  have hm := mnN_lt (F := A.F) hn (nI w)
  have hI := h.kx b2
  have hC0 : CForms (sto s 1 1 0) A.n A.F := b2.1.1.congr (fun q x y => sto_ne (by omega))
  have h0 : CL (sto s 1 1 0) [] := ⟨sto_eq, fun i hi => absurd hi (Nat.not_lt_zero i)⟩
  rw [if_pos c, if_neg (by decide), if_pos c, b1, cl_s, lt_e, has4n hC0 (by omega), cl_s]
  simp only [lt_e]
  have hlen := linL_len A (nI w)
  have fin : ∀ m, CL m (linL A (nI w)) → Nc (sto s 1 1 0) m → ∃ σ', some ((m 1 1), m) = some (nI (linL A (nI w)).length, σ') ∧ CInv σ' (setL A (linL A (nI w)).length (fun i => (linL A (nI w)).getD i 0)) ∧ Hi σ σ' := by
    intro m h1 h2
    refine ⟨m, by rw [h1.1], hI.setL (fun q x y z t => by rw [h2 q y z, sto_ne y]) (h1.line (by omega)), fun q hq => by rw [h2 q (by omega) (by omega), sto_ne (by omega)]; exact b2.hi q hq⟩
  by_cases e : mnN A.F A.n (nI w) < A.n
  · have hlin : linL A (nI w) = nameL (A.F (mnN A.F A.n (nI w))) ++ fldL (A.F (mnN A.F A.n (nI w))) (nI w) (lts (A.F (mnN A.F A.n (nI w)))).length := by unfold linL; rw [if_pos e]
    have hf := hC0.2.2 _ e
    obtain ⟨m1, d1, d2, d3⟩ := writeForm_ok (by omega) hf.1 hf.2 (ha _ e).1 h0 (nI w)
    rw [if_pos e, if_neg (by decide), ck_t (inb_nI (show mnN A.F A.n (nI w) < 12 by omega) (by decide)), ix_nI (by omega), d1, cl_s]
    exact fin m1 (by rw [hlin]; exact d2) d3
  · have hlin : linL A (nI w) = [if mnN A.F A.n (nI w) = 12 then 63 else 33] ++ numL (nI w) := by unfold linL; rw [if_neg e]
    have key : ∀ v : Int32, v = (if mnN A.F A.n (nI w) = 12 then 63 else 33) → ∃ σ', (cl (fX0_add 1 (sto s 1 1 0) v) fun x m12 => cl (fX0_addNumber 1 m12 (nI w)) fun x m13 => some (m13 1 1, m13)) = some (nI (linL A (nI w)).length, σ') ∧ CInv σ' (setL A (linL A (nI w)).length (fun i => (linL A (nI w)).getD i 0)) ∧ Hi σ σ' := by
      intro v hv
      obtain ⟨m1, d1, d2, d3⟩ := add_ok h0 (by decide) v
      obtain ⟨m2, f1, f2, f3⟩ := addNumber_ok d2 (by simp) (Or.inl ⟨w, hw, rfl⟩)
      rw [d1, cl_s, f1, cl_s]
      exact fin m2 (by rw [hlin, ← hv]; exact f2) (d3.tr f3)
    rw [if_neg e, if_pos rfl]
    by_cases z : mnN A.F A.n (nI w) = 12
    · rw [if_pos (show nI (mnN A.F A.n (nI w)) = 12 by rw [z]; rfl)]
      exact key 63 (by rw [if_pos z])
    · rw [if_neg (show ¬ nI (mnN A.F A.n (nI w)) = 12 from fun y => z ((nI_eq (b := 12) (by omega) (by decide)).mp y))]
      exact key 33 (by rw [if_neg z])
/-- the reference's -/
theorem rname {σ : Mem} {i : Nat} {f : Fm} (h : RForm σ i f) (hN : Nok f) (h0 : RLn σ []) (y12 : Int32) (kk : Mem → Option (Int32 × Mem)) : ∃ σ', fX11_write_L58 kk y12 (nI i) 5000 σ 0 = kk σ' ∧ RLn σ' (nameL f) ∧ Nr σ σ' := by
  have hi := h.1.1
  have hnl : nmL f ≤ 3 := by unfold nmL; split <;> (try split) <;> omega
  have hnlen : ∀ k, k ≤ 3 → ((nameL f).take k).length ≤ k := fun k _ => by rw [List.length_take]; omega
  have hlen : nmL f = (nameL f).length := by
    unfold nmL nameL
    have h4 := hN.2.2.2
    by_cases z : fnm f 2 = 0
    · by_cases y : fnm f 1 = 0 <;> simp [y, z]
    · have y : ¬ fnm f 1 = 0 := fun q => z (h4 q)
      simp [y, z]
  have hget : ∀ k (hk : k < (nameL f).length), (nameL f)[k] = nI (fnm f k) := by
    intro k hk
    have h4 := hN.2.2.2
    have hk3 : k < 3 := by have := nameL_len f; omega
    have hkc : k = 0 ∨ k = 1 ∨ k = 2 := by omega
    by_cases y : fnm f 1 = 0
    · have e : nameL f = [nI (fnm f 0)] := by unfold nameL; simp [y, h4 y]
      have hl : (nameL f).length = 1 := by rw [e]; rfl
      have : k = 0 := by omega
      subst this
      simp [e]
    · by_cases z : fnm f 2 = 0
      · have e : nameL f = [nI (fnm f 0), nI (fnm f 1)] := by unfold nameL; simp [y, z]
        have hl : (nameL f).length = 2 := by rw [e]; rfl
        have hk2 : k = 0 ∨ k = 1 := by omega
        rcases hk2 with rfl | rfl <;> simp [e]
      · have e : nameL f = [nI (fnm f 0), nI (fnm f 1), nI (fnm f 2)] := by unfold nameL; simp [y, z]
        rcases hkc with rfl | rfl | rfl <;> simp [e]
  refine loopM (fX11_write_L58 kk y12 (nI i)) (fX11_write_L58_b kk y12 (nI i)) (fun _ _ _ => rfl) (nmL f)
    (fun k m => RLn m ((nameL f).take k) ∧ Nr σ m)
    (fun r => ∃ σ', r = kk σ' ∧ RLn σ' (nameL f) ∧ Nr σ σ') ?_ ?_ 5000 0 σ (by omega) (by omega) ⟨h0, fun _ _ _ => rfl, fun _ _ => rfl⟩
  · rintro m rec ⟨h1, h2⟩
    unfold fX11_write_L58_b
    have hm : RForm m i f := h.congr (fun q x y => h2.1 q (by omega) (by omega))
    rw [nameMany_ok hm hN, cl_s, if_neg (nI_nlt (Nat.le_refl _) (by omega))]
    rw [hlen, List.take_length] at h1
    exact ⟨m, rfl, h1, h2⟩
  · rintro k m rec hk ⟨h1, h2⟩
    right
    unfold fX11_write_L58_b
    have hm : RForm m i f := h.congr (fun q x y => h2.1 q (by omega) (by omega))
    have hkl : k < (nameL f).length := by omega
    obtain ⟨m1, b1, b2, b3⟩ := says_ok h1 (by have := hnlen k (by omega); omega) (nI (fnm f k))
    rw [nameMany_ok hm hN, cl_s, if_pos (nI_lt hk (by omega)), e3, ck_t (inb_nI (show 3 * i + k < 36 by omega) (by decide)), ix_nI (by omega), hm.2.2.1 k (by omega), b1, cl_s, nI_1]
    refine ⟨m1, ⟨?_, h2.tr b3⟩, rfl⟩
    rw [List.take_succ_eq_append_getElem hkl, hget k hkl]; exact b2
theorem rflds {σ : Mem} {i : Nat} {f : Fm} (h : RForm σ i f) (hf : Fok f) (h0 : RLn σ (nameL f)) (w : Int32) (kk : Mem → Option (Int32 × Mem)) : ∃ σ', fX11_write_L89 kk w (nI i) 5000 σ 0 = kk σ' ∧ RLn σ' (nameL f ++ fldL f w (lts f).length) ∧ Nr σ σ' := by
  have hi := h.1.1
  have hlen := lts_len8 f
  have hnl := nameL_len f
  refine loopM (fX11_write_L89 kk w (nI i)) (fX11_write_L89_b kk w (nI i)) (fun _ _ _ => rfl) (lts f).length
    (fun k m => RLn m (nameL f ++ fldL f w k) ∧ Nr σ m)
    (fun r => ∃ σ', r = kk σ' ∧ RLn σ' (nameL f ++ fldL f w (lts f).length) ∧ Nr σ σ') ?_ ?_ 5000 0 σ (by omega) (by omega) ⟨by rw [fldL, List.append_nil]; exact h0, fun _ _ _ => rfl, fun _ _ => rfl⟩
  · rintro m rec ⟨h1, h2⟩
    unfold fX11_write_L89_b
    have hm : RForm m i f := h.congr (fun q x y => h2.1 q (by omega) (by omega))
    rw [fieldsOf_ok hm, cl_s, if_neg (nI_nlt (Nat.le_refl _) (by omega))]
    exact ⟨m, rfl, h1, h2⟩
  · rintro k m rec hk ⟨h1, h2⟩
    right
    unfold fX11_write_L89_b
    have hm : RForm m i f := h.congr (fun q x y => h2.1 q (by omega) (by omega))
    have hmem := lts_mem.mp (List.getElem_mem hk)
    have hl1 := fldL_len f w k
    obtain ⟨m1, b1, b2, b3⟩ := says_ok h1 (by rw [List.length_append]; omega) 32
    have hm1 : RForm m1 i f := hm.congr (fun q x y => b3.1 q (by omega) (by omega))
    have hrg := num_rg (f := f) (l := (lts f)[k]) (hf.2.2.1 _ hmem.1) w
    obtain ⟨m2, d1, d2, d3⟩ := saysNumber_ok b2 (by rw [List.length_append, List.length_append]; simp only [List.length_cons, List.length_nil]; omega) hrg
    have hg : (lts f)[k]? = some (lts f)[k] := by simp
    rw [fieldsOf_ok hm, cl_s, if_pos (nI_lt hk (by omega)), b1, cl_s, fieldAt_ok hm1 (by omega), cl_s, hg, show ansO (some (lts f)[k]) = nI (lts f)[k] from rfl, rnum_ok hm1 hf hmem.1 hmem.2, cl_s, d1, cl_s, nI_1]
    refine ⟨m2, ⟨?_, h2.tr (b3.tr d3)⟩, rfl⟩
    have : (lts f).getD k 0 = (lts f)[k] := by simp [hk]
    rw [fldL, this, ← List.append_assoc, ← List.append_assoc]; exact d2
theorem rs_write (a : Int32) : RSa (fun σ => fX11_write σ a) (gWrite a) := by
  intro σ A h ha
  show ∃ σ', fX11_write σ a = _ ∧ _
  unfold fX11_write gWrite
  rw [rword, cl_s]
  by_cases c : 0 ≤ a ∧ a ≤ 4095
  case neg => rw [if_neg c, if_neg c, if_pos rfl]; exact rbad h
  have hn := h.forms.2.1
  obtain ⟨w, hw, rfl⟩ := word_of c
  have hn0 : Nr σ (sto σ 362 15 0) := ⟨fun q x y => sto_ne x, fun j hj => sto_nj hj⟩
  have hI0 : RInv (sto σ 362 15 0) (setL A 0 A.ln) := h.setL (fun q x y z => sto_ne (by omega)) (fun j _ hj => sto_nj hj) ⟨sto_eq, Nat.zero_le _, fun i hi => absurd hi (Nat.not_lt_zero i)⟩
  obtain ⟨s, b1, b2, b3, b4⟩ := meant_ok hI0.forms hI0.lk hw
  have hI := hI0.same b2 b3 b4
  have hm := mnN_lt (F := A.F) hn (nI w)
  have h0 : RLn s [] := ⟨by rw [b2.2 15 (by decide), sto_eq]; rfl, fun i hi => absurd hi (Nat.not_lt_zero i)⟩
  rw [if_pos c, if_neg (by decide), if_pos c, lt_e, show fX11_meant (sto σ 362 15 0) (nI w) = some (mnr (mnN A.F A.n (nI w)), s) from b1, cl_s]
  have hlen := linL_len A (nI w)
  have hlo : Lo σ s := fun q hq => by rw [b2.lo q hq, sto_ne (by omega)]
  have fin : ∀ m, RLn m (linL A (nI w)) → Nr s m → ∃ σ', some ((m 362 15), m) = some (nI (linL A (nI w)).length, σ') ∧ RInv σ' (setL A (linL A (nI w)).length (fun i => (linL A (nI w)).getD i 0)) ∧ Lo σ σ' := by
    intro m h1 h2
    exact ⟨m, by rw [h1.1], hI.setL (fun q x y z => h2.1 q (by omega) z) (fun j _ hj => h2.2 j hj) (h1.line (by omega)), fun q hq => by rw [h2.1 q (by omega) (by omega)]; exact hlo q hq⟩
  by_cases e : mnN A.F A.n (nI w) < A.n
  · have hlin : linL A (nI w) = nameL (A.F (mnN A.F A.n (nI w))) ++ fldL (A.F (mnN A.F A.n (nI w))) (nI w) (lts (A.F (mnN A.F A.n (nI w)))).length := by unfold linL; rw [if_pos e]
    have hf := hI.forms.2.2 _ e
    rw [if_neg (fun z => absurd ((mnr_neg _ hm.1).mp z) (by omega))]
    rw [mnr_f _ (by omega)]
    obtain ⟨m1, d1, d2, d3⟩ := rname hf.1 (ha _ e).1 h0 (nI w) (fun (m16 : Mem) => fX11_write_L89 (fun (m22 : Mem) => some ((m22 362 15), m22)) (nI w) (nI (mnN A.F A.n (nI w))) 5000 m16 (0 : Int32))
    have hf1 : RForm m1 (mnN A.F A.n (nI w)) (A.F (mnN A.F A.n (nI w))) := hf.1.congr (fun q x y => d3.1 q (by omega) (by omega))
    obtain ⟨m2, f1, f2, f3⟩ := rflds hf1 hf.2 d2 (nI w) (fun (m22 : Mem) => some ((m22 362 15), m22))
    rw [d1, f1]
    exact fin m2 (by rw [hlin]; exact f2) (d3.tr f3)
  · have hlin : linL A (nI w) = [if mnN A.F A.n (nI w) = 12 then 63 else 33] ++ numL (nI w) := by unfold linL; rw [if_neg e]
    have key : ∀ v : Int32, v = (if mnN A.F A.n (nI w) = 12 then 63 else 33) → ∃ σ', (cl (fX11_says s v) fun x m9 => cl (fX11_saysNumber m9 (nI w)) fun x m10 => some (m10 362 15, m10)) = some (nI (linL A (nI w)).length, σ') ∧ RInv σ' (setL A (linL A (nI w)).length (fun i => (linL A (nI w)).getD i 0)) ∧ Lo σ σ' := by
      intro v hv
      obtain ⟨m1, d1, d2, d3⟩ := says_ok h0 (by decide) v
      obtain ⟨m2, f1, f2, f3⟩ := saysNumber_ok d2 (by simp) (Or.inl ⟨w, hw, rfl⟩)
      rw [d1, cl_s, f1, cl_s]
      exact fin m2 (by rw [hlin, ← hv]; exact f2) (d3.tr f3)
    rw [if_pos ((mnr_neg _ hm.1).mpr (by omega)), lt_e]
    have h12 : mnr 12 = -1 := rfl
    by_cases z : mnN A.F A.n (nI w) = 12
    · rw [if_pos (by rw [z]; rfl)]
      exact key 63 (by rw [if_pos z])
    · rw [if_neg (fun y => z ((mnr_inj _ hm.1 12 (by decide)).mp (by rw [y]; rfl)))]
      exact key 33 (by rw [if_neg z])
