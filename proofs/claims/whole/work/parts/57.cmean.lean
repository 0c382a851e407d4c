theorem CField.congr {σ σ' : Mem} {k : Nat} {p : Nat → Bool} {sg : Bool} (h : CField σ k p sg) (h0 : σ' k = σ k) (h1 : σ' (k + 1) = σ (k + 1)) : CField σ' k p sg := by
  unfold CField at *
  rw [h0, h1]; exact h
theorem CForm.congr {σ σ' : Mem} {k : Nat} {f : Fm} (h : CForm σ k f) (hq : ∀ q, k ≤ q → q < k + 22 → σ' q = σ q) : CForm σ' k f := by
  obtain ⟨h1, h2, h3, h4⟩ := h
  refine ⟨?_, fun l hl => (h2 l hl).congr (hq _ (by omega) (by omega)) (hq _ (by omega) (by omega)), ?_, ?_⟩
  · rw [hq k (by omega) (by omega)]; exact h1
  · rw [hq k (by omega) (by omega), hq (k + 2) (by omega) (by omega)]; exact h3
  · rw [hq k (by omega) (by omega), hq (k + 3) (by omega) (by omega), hq (k + 4) (by omega) (by omega), hq (k + 5) (by omega) (by omega)]; exact h4
theorem CForms.congr {σ σ' : Mem} {n : Nat} {F : Nat → Fm} (h : CForms σ n F) (hq : ∀ q, 9 ≤ q → q < 275 → σ' q = σ q) : CForms σ' n F := by
  obtain ⟨h1, h2, h3⟩ := h
  refine ⟨by rw [hq 9 (by omega) (by omega)]; exact h1, h2, fun i hi => ⟨(h3 i hi).1.congr (fun q a b => hq q (by omega) (by omega)), (h3 i hi).2⟩⟩
/-- forms, which is over which, what is known -/
def CMean (σ : Mem) (n : Nat) (F : Nat → Fm) : Prop := CForms σ n F ∧ COver σ n F ∧ CKnown σ n F
theorem CMean.congr {σ σ' : Mem} {n : Nat} {F : Nat → Fm} (h : CMean σ n F) (hq : ∀ q, 9 ≤ q → q < 278 → σ' q = σ q) : CMean σ' n F :=
  ⟨h.1.congr (fun q a b => hq q a (by omega)), fun i hi => by rw [hq 277 (by omega) (by omega)]; exact h.2.1 i hi, fun w hw => by rw [hq 276 (by omega) (by omega)]; exact h.2.2 w hw⟩
theorem CMean.look {σ : Mem} {n : Nat} {F : Nat → Fm} (h : CMean σ n F) (w : Nat) : CMean (sto σ 276 w (kno F n (nI w))) n F := by
  have hc : ∀ q, q ≠ 276 → sto σ 276 w (kno F n (nI w)) q = σ q := fun q hq => by funext b; simp [sto_k, hq]
  refine ⟨h.1.congr (fun q a b => hc q (by omega)), fun i hi => by rw [hc 277 (by decide)]; exact h.2.1 i hi, fun v hv => ?_⟩
  rw [sto_k]
  by_cases e : v = w
  · subst e; simp
  · have := h.2.2 v hv
    simpa [e] using this
theorem bt_shr' {k : Nat} (hk : k < 32) (x : Int32) {i : Nat} (hi : i < 32) : bt (x >>> (nI k &&& 31)) i = if i + k < 32 then bt x (i + k) else bt x 31 := by
  show BitVec.getLsbD (x.toBitVec.sshiftRight' ((nI k &&& 31).toBitVec.smod 32)) i = _
  rw [BitVec.getLsbD_sshiftRight', sm32 k hk]
  have h2 : ¬ 32 ≤ i := by omega
  have h3 : x.toBitVec.msb = x.toBitVec.getLsbD 31 := by rw [BitVec.msb_eq_getLsbD_last]
  rw [h3]
  simp only [h2, decide_false, Bool.not_false, Bool.true_and, bt]
  rw [Nat.add_comm k i]
theorem one_mn {F : Nat → Fm} {n : Nat} (w : Int32) : (1 : Int32) + nI (mnN F n w) = nI (1 + mnN F n w) := nI_add 1 _
theorem bt_small {m : Nat} (h : m < 16) (i : Nat) (hi : 4 ≤ i) : bt (nI m) i = false := by
  rw [bt_nI (by omega)]
  exact Nat.testBit_lt_two_pow (Nat.lt_of_lt_of_le h (show 2 ^ 4 ≤ 2 ^ i from Nat.pow_le_pow_right (by decide) hi))
theorem kno_mean {F : Nat → Fm} {n : Nat} (hn : n ≤ 12) (w : Int32) : (kno F n w >>> ((12 : Int32) &&& 31)) - 1 = nI (mnN F n w) := by
  have hm := (mnN_lt (F := F) hn w).1
  have h : kno F n w >>> ((12 : Int32) &&& 31) = nI (mnN F n w + 1) := by
    apply bt_ext
    intro i hi
    rw [show ((12 : Int32) &&& 31) = (nI 12 &&& 31) from rfl, bt_shr' (by decide) _ hi, kno, one_mn, show ((12 : Int32) &&& 31) = (nI 12 &&& 31) from rfl, bt_or, bt_or, bt_shl (by decide), bt_shl (by decide), fitS_bt hn, fitS_bt hn, Nat.add_comm (mnN F n w) 1]
    by_cases e : i + 12 < 32
    · have a1 : ¬ i + 12 < 12 := by omega
      have a2 : ¬ i + 12 < n := by omega
      simp [e, a2]
    · have a1 : bt (nI (1 + mnN F n w)) 19 = false := bt_small (by omega) 19 (by decide)
      have a2 : bt (nI (1 + mnN F n w)) i = false := bt_small (by omega) i (by omega)
      have a3 : ¬ 31 < n := by omega
      simp [e, a1, a2, a3]
  rw [h, nI_pred]
theorem kno_fit {F : Nat → Fm} {n : Nat} (hn : n ≤ 12) (w : Int32) : kno F n w &&& 4095 = fitS F n w := by
  apply bt_ext
  intro i hi
  rw [bt_and, kno, one_mn, show ((12 : Int32) &&& 31) = (nI 12 &&& 31) from rfl, bt_or, bt_shl (by decide), fitS_bt hn, show (4095 : Int32) = nI (2 ^ 12 - 1) from rfl, bt_nI (n := 2 ^ 12 - 1) (by decide), Nat.testBit_two_pow_sub_one]
  by_cases h : i < 12
  · simp [h]
  · have : ¬ i < n := by omega
    simp [h, this]
theorem meaningOf_ok {σ : Mem} {n : Nat} {F : Nat → Fm} (h : CMean σ n F) {w : Nat} (hw : w < 4096) : fX6_meaningOf σ (nI w) = some (nI (mnN F n (nI w)), sto σ 276 w (kno F n (nI w))) := by
  unfold fX6_meaningOf
  rw [knownOf_ok h.1 h.2.1 h.2.2 hw, cl_s, kno_mean h.1.2.1]
theorem fittingOf_ok {σ : Mem} {n : Nat} {F : Nat → Fm} (h : CMean σ n F) {w : Nat} (hw : w < 4096) : fX6_fittingOf σ (nI w) = some (fitS F n (nI w), sto σ 276 w (kno F n (nI w))) := by
  unfold fX6_fittingOf
  rw [knownOf_ok h.1 h.2.1 h.2.2 hw, cl_s, kno_fit h.1.2.1]
/-- the memory behind a look at a word: only what is known may be more -/
def Kx (n : Nat) (F : Nat → Fm) (σ σ' : Mem) : Prop := CMean σ' n F ∧ ∀ q, q ≠ 276 → σ' q = σ q
theorem Kx.rf {n : Nat} {F : Nat → Fm} {σ : Mem} (h : CMean σ n F) : Kx n F σ σ := ⟨h, fun _ _ => rfl⟩
theorem Kx.tr {n : Nat} {F : Nat → Fm} {σ σ1 σ2 : Mem} (h : Kx n F σ σ1) (h' : Kx n F σ1 σ2) : Kx n F σ σ2 := ⟨h'.1, fun q hq => (h'.2 q hq).trans (h.2 q hq)⟩
theorem Kx.look {n : Nat} {F : Nat → Fm} {σ : Mem} (h : CMean σ n F) (w : Nat) : Kx n F σ (sto σ 276 w (kno F n (nI w))) := ⟨h.look w, fun q hq => by funext b; simp [sto_k, hq]⟩
theorem meaning_ex {σ : Mem} {n : Nat} {F : Nat → Fm} (h : CMean σ n F) {w : Nat} (hw : w < 4096) : ∃ σ', fX6_meaningOf σ (nI w) = some (nI (mnN F n (nI w)), σ') ∧ Kx n F σ σ' := ⟨_, meaningOf_ok h hw, Kx.look h w⟩
theorem fitting_ex {σ : Mem} {n : Nat} {F : Nat → Fm} (h : CMean σ n F) {w : Nat} (hw : w < 4096) : ∃ σ', fX6_fittingOf σ (nI w) = some (fitS F n (nI w), σ') ∧ Kx n F σ σ' := ⟨_, fittingOf_ok h hw, Kx.look h w⟩
