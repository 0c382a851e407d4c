/-! ===== odd: the reference ===== -/
theorem cwN_none (F : Nat → Fm) (n m : Nat) : ∀ v, fndF (fun w => decide (mnN F n (nI w) = m)) 0 v = none ↔ cwN F n m v = 0
  | 0 => by simp [fndF, cwN]
  | v + 1 => by
    rw [fndF_succ, cwN, Nat.zero_add]
    have ih := cwN_none F n m v
    cases h : fndF (fun w => decide (mnN F n (nI w) = m)) 0 v with
    | some w =>
      have : ¬ cwN F n m v = 0 := fun z => by rw [ih.mpr z] at h; cases h
      constructor
      · intro z; cases z
      · intro z; omega
    | none =>
      rw [ih.mp h]
      by_cases e : mnN F n (nI v) = m <;> simp [e]
def oC (A : Ab) (a : Int32) (i j : Nat) : Int32 := if a = 2 then nI (tF (clP A.F A.n 4096) A.n i + cF (clP A.F A.n 4096 i) (i + 1) (j - (i + 1))) else 0
def oD (A : Ab) (a : Int32) (i : Nat) : Int32 := if a = 0 then mkS (fun i => decide (cwN A.F A.n i 4096 = 0)) i else 0
def oE (A : Ab) (a : Int32) (i : Nat) : Int32 := if a = 2 then nI (tF (clP A.F A.n 4096) A.n i) else 0
theorem roddB {σ : Mem} {A : Ab} (h : RInv σ A) {i : Nat} (hi : i < A.n) (a y25 : Int32) (kk : Mem → Int32 → Int32 → Option (Int32 × Mem)) :
    ∃ m', RInv m' A ∧ Lo σ m' ∧ fX11_odd_L70 kk a y25 (nI i) 13 σ (nI (tF (twP A.F) A.n i)) (oE A a i) (nI (i + 1)) = kk m' (nI (tF (twP A.F) A.n (i + 1))) (oE A a (i + 1)) := by
  have hn := h.forms.2.1
  refine loopD (fX11_odd_L70 kk a y25 (nI i)) (fX11_odd_L70_b kk a y25 (nI i)) (fun _ _ _ _ _ => rfl) A.n
    (fun j m t u => RInv m A ∧ Lo σ m ∧ i < j ∧ t = nI (tF (twP A.F) A.n i + cF (twP A.F i) (i + 1) (j - (i + 1))) ∧ u = oC A a i j)
    (fun r => ∃ m', RInv m' A ∧ Lo σ m' ∧ r = kk m' (nI (tF (twP A.F) A.n (i + 1))) (oE A a (i + 1))) ?_ ?_ 13 (i + 1) σ _ _ (by omega) (by omega) ⟨h, fun _ _ => rfl, by omega, by rw [Nat.sub_self]; rfl, by unfold oC oE; rw [Nat.sub_self]; rfl⟩
  · rintro m t u rec ⟨h1, h2, h3, rfl, rfl⟩
    unfold fX11_odd_L70_b
    rw [h1.forms.1, if_neg (nI_nlt (Nat.le_refl _) (by omega))]
    exact ⟨m, h1, h2, rfl⟩
  · rintro j m t u rec hj ⟨h1, h2, h3, rfl, rfl⟩
    right
    have hI := inb_nI (show i < 12 by omega) (show 12 < 2 ^ 31 by decide)
    have hJ := inb_nI (show j < 12 by omega) (show 12 < 2 ^ 31 by decide)
    have fi := (h1.forms.2.2 i hi).1.2.2.2.1
    have fj := (h1.forms.2.2 j hj).1.2.2.2.1
    obtain ⟨m1, a1, a2, a3⟩ := witness_ok h1 hi hj
    have hneg := ansO_neg (o := wit A.F A.n i j 4096) (fun w hw => wit_lt hw)
    have hlo : Lo σ m1 := fun q hq => (a3 q hq).trans (h2 q hq)
    unfold fX11_odd_L70_b fX11_maskOf fX11_valueOf
    simp only [ck_t hI, ck_t hJ, cl_s, lt_e, ix_nI (show i < 2 ^ 31 by omega), ix_nI (show j < 2 ^ 31 by omega), fi.1, fj.1, fi.2, fj.2]
    rw [h1.forms.1, if_pos (nI_lt hj (by omega)), show nI j + 1 = nI (j + 1) from nI_1 j]
    -- the clashes, behind the twins
    have tail : ∀ tv : Int32, tv = nI (if twP A.F i j = true then 1 else 0) → ∃ m' t' u', (RInv m' A ∧ Lo σ m' ∧ i < j + 1 ∧ t' = nI (tF (twP A.F) A.n i + cF (twP A.F i) (i + 1) (j + 1 - (i + 1))) ∧ u' = oC A a i (j + 1)) ∧
        (if a = (2 : Int32) then cl (fX11_witness m (nI i) (nI j)) fun r48 m47 => if r48 < 0 then rec m47 (nI (tF (twP A.F) A.n i + cF (twP A.F i) (i + 1) (j - (i + 1))) + tv) (oC A a i j + 0) (nI (j + 1)) else rec m47 (nI (tF (twP A.F) A.n i + cF (twP A.F i) (i + 1) (j - (i + 1))) + tv) (oC A a i j + 1) (nI (j + 1)) else rec m (nI (tF (twP A.F) A.n i + cF (twP A.F i) (i + 1) (j - (i + 1))) + tv) (oC A a i j + 0) (nI (j + 1))) = rec m' t' u' (nI (j + 1)) := by
      intro tv htv
      have ht : nI (tF (twP A.F) A.n i + cF (twP A.F i) (i + 1) (j - (i + 1))) + tv = nI (tF (twP A.F) A.n i + cF (twP A.F i) (i + 1) (j + 1 - (i + 1))) := by
        rw [htv, nI_add, cF_step h3, Nat.add_assoc]
      rw [ht]
      by_cases e2 : a = 2
      · rw [if_pos e2, a1, cl_s]
        have hoc : ∀ x, oC A a i x = nI (tF (clP A.F A.n 4096) A.n i + cF (clP A.F A.n 4096 i) (i + 1) (x - (i + 1))) := fun x => by unfold oC; rw [if_pos e2]
        by_cases c : wit A.F A.n i j 4096 = none
        · have cc : ¬ clP A.F A.n 4096 i j = true := fun z => (clP_wit h3).mp z c
          rw [if_pos (hneg.mpr c)]
          refine ⟨m1, _, _, ⟨a2, hlo, by omega, rfl, ?_⟩, rfl⟩
          rw [hoc, hoc, cF_step h3, if_neg cc]; exact Int32.add_zero _
        · have cc : clP A.F A.n 4096 i j = true := (clP_wit h3).mpr c
          rw [if_neg (fun z => c (hneg.mp z))]
          refine ⟨m1, _, _, ⟨a2, hlo, by omega, rfl, ?_⟩, rfl⟩
          rw [hoc, hoc, cF_step h3, if_pos cc, nI_1, Nat.add_assoc]
      · rw [if_neg e2]
        refine ⟨m, _, _, ⟨h1, h2, by omega, rfl, ?_⟩, rfl⟩
        unfold oC; rw [if_neg e2, if_neg e2]; rfl
    by_cases e : mskP (A.F i) = mskP (A.F j)
    · rw [if_pos e]
      by_cases e2 : valP (A.F i) = valP (A.F j)
      · rw [if_pos e2]
        exact tail 1 (by rw [if_pos (by simp [twP, e, e2])]; rfl)
      · rw [if_neg e2]
        exact tail 0 (by rw [if_neg (by simp [twP, e2])]; rfl)
    · rw [if_neg e]
      exact tail 0 (by rw [if_neg (by simp [twP, e])]; rfl)
theorem rs_odd (a : Int32) : RS (fun σ => fX11_odd σ a) (gOdd a) := by
  intro σ A h
  show ∃ σ', fX11_odd σ a = _ ∧ _
  unfold fX11_odd gOdd
  rw [isInI σ a 0 2 0 2 rfl rfl, cl_s]
  by_cases c : 0 ≤ a ∧ a ≤ 2
  case neg => rw [if_neg c, if_neg c, if_pos rfl]; exact rbad h
  have hn := h.forms.2.1
  rw [if_pos c, if_neg (by decide), if_pos c]
  refine loopE (fX11_odd_L30 (fun (m15 : Mem) (x16 : Int32) (x17 : Int32) (x18 : Int32) => if a = (0 : Int32) then some (x16, m15) else if a = (1 : Int32) then some (x17, m15) else some (x18, m15)) a) (fX11_odd_L30_b (fun (m15 : Mem) (x16 : Int32) (x17 : Int32) (x18 : Int32) => if a = (0 : Int32) then some (x16, m15) else if a = (1 : Int32) then some (x17, m15) else some (x18, m15)) a) (fun _ _ _ _ _ _ => rfl) A.n
    (fun i m t u v => RInv m A ∧ Lo σ m ∧ t = oD A a i ∧ u = nI (tF (twP A.F) A.n i) ∧ v = oE A a i)
    (fun r => ∃ σ', r = some (if a = 0 then dead A else if a = 1 then nI (tF (twP A.F) A.n A.n) else nI (tF (clP A.F A.n 4096) A.n A.n), σ') ∧ RInv σ' A ∧ Lo σ σ') ?_ ?_ 13 0 σ 0 0 0 (by omega) (by omega) ⟨h, fun _ _ => rfl, by unfold oD; split <;> rfl, rfl, by unfold oE; split <;> rfl⟩
  · rintro m t u v rec ⟨h1, h2, rfl, rfl, rfl⟩
    unfold fX11_odd_L30_b
    rw [h1.forms.1, if_neg (nI_nlt (Nat.le_refl _) (by omega))]
    refine ⟨m, ?_, h1, h2⟩
    show (if a = 0 then _ else _) = _
    by_cases e0 : a = 0
    · rw [if_pos e0, if_pos e0, oD, if_pos e0]; rfl
    · rw [if_neg e0, if_neg e0]
      by_cases e1 : a = 1
      · rw [if_pos e1, if_pos e1]
      · have e2 : a = 2 := by
          obtain ⟨k, hk, rfl⟩ := rngL (n := 2) c (by decide)
          have k0 : ¬ k = 0 := fun z => e0 (by rw [z]; rfl)
          have k1 : ¬ k = 1 := fun z => e1 (by rw [z]; rfl)
          have : k = 2 := by omega
          rw [this]; rfl
        rw [if_neg e1, if_neg e1, oE, if_pos e2]
  · rintro i m t u v rec hi ⟨h1, h2, rfl, rfl, rfl⟩
    right
    unfold fX11_odd_L30_b
    rw [h1.forms.1, if_pos (nI_lt hi (by omega))]
    simp only [lt_e, nI_1]
    have fin : ∀ (s : Mem) (dv : Int32), RInv s A → Lo σ s → oD A a i ||| dv = oD A a (i + 1) → ∃ m' t' u' v', (RInv m' A ∧ Lo σ m' ∧ t' = oD A a (i + 1) ∧ u' = nI (tF (twP A.F) A.n (i + 1)) ∧ v' = oE A a (i + 1)) ∧
        fX11_odd_L70 (fun m33 x34 x35 => rec m33 (oD A a i ||| dv) x34 x35 (nI (i + 1))) a (oD A a i ||| dv) (nI i) 13 s (nI (tF (twP A.F) A.n i)) (oE A a i) (nI (i + 1)) = rec m' t' u' v' (nI (i + 1)) := by
      intro s dv hs hl hd
      obtain ⟨m', p1, p2, p3⟩ := roddB hs hi a (oD A a i ||| dv) (fun m33 x34 x35 => rec m33 (oD A a i ||| dv) x34 x35 (nI (i + 1)))
      rw [p3]
      exact ⟨m', _, _, _, ⟨p1, fun q hq => (p2 q hq).trans (hl q hq), hd, rfl, rfl⟩, rfl⟩
    by_cases e0 : a = 0
    · rw [if_pos e0]
      obtain ⟨s, p1, p2, p3⟩ := rs_next (nI i) (-1) m A h1
      have hg : gNext (nI i) (-1) A = (ansO (nxtP A i 0), A) := by
        unfold gNext
        rw [if_pos ⟨Or.inl ⟨nI_pos' (by omega), nI_lt hi (by omega)⟩, by decide⟩, ix_nI (by omega)]
        rfl
      rw [hg] at p1 p2
      rw [show fX11_next m (nI i) (-1) = _ from p1, cl_s]
      have hlo : Lo σ s := fun q hq => (p3 q hq).trans (h2 q hq)
      have hneg := ansO_neg (o := nxtP A i 0) (fun w hw => by have := fndF_lt hw; omega)
      have hc := cwN_none A.F A.n i 4096
      show ∃ m' t' u' v', _ ∧ (if ansO (nxtP A i 0) < 0 then _ else _) = _
      have hod : ∀ k, oD A a k = mkS (fun i => decide (cwN A.F A.n i 4096 = 0)) k := fun k => by unfold oD; rw [if_pos e0]
      by_cases z : nxtP A i 0 = none
      · rw [if_pos (hneg.mpr z)]
        refine fin s _ p2 hlo ?_
        rw [hod, hod, mkS, if_pos (by simpa using hc.mp z)]
      · rw [if_neg (fun y => z (hneg.mp y))]
        refine fin s 0 p2 hlo ?_
        rw [hod, hod, mkS, if_neg (by simpa using fun y => z (hc.mpr y))]
    · rw [if_neg e0]
      refine fin m 0 h1 h2 ?_
      unfold oD; rw [if_neg e0, if_neg e0]; rfl
