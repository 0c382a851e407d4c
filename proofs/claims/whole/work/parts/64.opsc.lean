/-! ===== operations on the deeds ===== -/
def setD (A : Ab) (d : Dd) : Ab := (A.n, A.F, A.tc, A.tp, A.lc, A.ln, d, A.pc, A.past, A.kept, A.rf)
theorem CInv.setD {σ σ' : Mem} {A : Ab} {d : Dd} (h : CInv σ A) (hq : ∀ q, q < 283 ∨ 287 ≤ q → σ' q = σ q) (hd : CDeeds σ' 283 d) (ho : Dok d) : CInv σ' (setD A d) :=
  ⟨h.mean.congr (fun q a b => hq q (by omega)), h.sg.congr (fun q a b => hq q (by omega)), h.thr.congr (fun q a b _ _ => hq q (by omega)), h.tape.congr (hq _ (by decide)) (hq _ (by decide)), h.line.congr (hq _ (by decide)) (hq _ (by decide)), ⟨hd, ho⟩, h.past.congr (by rw [hq 0 (by decide)]) (by rw [hq 0 (by decide)]) (fun q a b => hq q (by omega)), h.kept.congr (by rw [hq 0 (by decide)]) (fun q a b => hq q (by omega)), fun i hi => by rw [hq 8 (by decide)]; exact h.ref i hi⟩
theorem RInv.setD {σ σ' : Mem} {A : Ab} {d : Dd} (h : RInv σ A) (ho : ∀ j, j < 27 → σ' 362 j = σ 362 j) (hq : ∀ q, 363 ≤ q → q < 383 → q ≠ 375 → σ' q = σ q) (hd : RDeeds σ' 375 0 d) (hk : Dok d) : RInv σ' (setD A d) :=
  ⟨h.forms.congr (ho _ (by decide)) (fun q a b => hq q (by omega) (by omega) (by omega)), h.lk.congr (ho _ (by decide)) (hq _ (by decide) (by decide) (by decide)) (hq _ (by decide) (by decide) (by decide)), h.tape.congr (ho _ (by decide)) (hq _ (by decide) (by decide) (by decide)), h.line.congr (ho _ (by decide)) (hq _ (by decide) (by decide) (by decide)), ⟨hd, hk⟩, h.past.congr (ho _ (by decide)) (hq _ (by decide) (by decide) (by decide)), h.kept.congr (ho _ (by decide)) (ho _ (by decide)) (fun q a b => hq q (by omega) (by omega) (by omega)), fun i hi => by rw [hq 363 (by decide) (by decide) (by decide)]; exact h.ref i hi⟩
/-- hold -/
def holdD (d : Dd) (i : Nat) (v : Int32) : Dd := (fun j => if j = i then v else d.hand j, d.cel, d.mc, d.met)
def gHold (a v : Int32) (A : Ab) : Int32 × Ab := if (0 ≤ a ∧ a ≤ 7) ∧ (-128 ≤ v ∧ v ≤ 255) then (A.d.hand (ix a), setD (remA A) (holdD A.d (ix a) v)) else bad A
theorem holdD_ok {d : Dd} (h : Dok d) (i : Nat) {v : Int32} (hv : -128 ≤ v ∧ v ≤ 255) : Dok (holdD d i v) := by
  refine ⟨h.1, h.2.1, fun j hj => ?_⟩
  show -128 ≤ (if j = i then v else d.hand j) ∧ (if j = i then v else d.hand j) ≤ 255
  by_cases e : j = i
  · rw [if_pos e]; exact hv
  · rw [if_neg e]; exact h.2.2 j hj
theorem cletter (σ : Mem) (a : Int32) : fX10_isLetter σ a = some (if 0 ≤ a ∧ a ≤ 7 then 1 else 0, σ) := by
  unfold fX10_isLetter
  rw [within_ok, cl_s, ck_t (isB10 _)]
theorem cs_hold (a v : Int32) : CS (fun σ => fX10_hold σ a v) (gHold a v) := by
  intro σ A h
  show ∃ σ', fX10_hold σ a v = _ ∧ _
  unfold fX10_hold gHold
  rw [cletter, cl_s, lt_e]
  by_cases c : 0 ≤ a ∧ a ≤ 7
  · rw [if_pos c, if_neg (by decide), within_ok, cl_s]
    by_cases e : -128 ≤ v ∧ v ≤ 255
    · obtain ⟨i, hi, ea⟩ := rngL (n := 7) c (by decide)
      rw [if_pos e, if_neg (by decide), if_pos ⟨c, e⟩]
      obtain ⟨s, b1, b2, b3⟩ := remember_ok h
      have hb := inb_nI (show i < 8 by omega) (show 8 < 2 ^ 31 by decide)
      rw [b1, cl_s, ea, ck_t hb, lt_e, ck_t hb, lt_e, ix_nI (by omega), b2.now.1.2.1 i (by omega)]
      refine ⟨_, rfl, b2.setD (fun q hq => sto_ne (by omega)) ⟨fun j hj => ?_, fun j hj => ?_, ?_, fun j hj => ?_⟩ (holdD_ok b2.now.2 i e), fun k hk => by rw [sto_ne (by omega)]; exact b3 k hk⟩
      · rw [sto_ne (by decide)]; exact b2.now.1.1 j hj
      · show _ = if j = i then v else A.d.hand j
        by_cases e2 : j = i
        · subst e2; rw [sto_eq, if_pos rfl]
        · rw [sto_nj e2, if_neg e2]; exact b2.now.1.2.1 j hj
      · rw [sto_ne (by decide)]; exact b2.now.1.2.2.1
      · rw [sto_ne (by decide)]; exact b2.now.1.2.2.2 j hj
    · rw [if_neg e, if_pos rfl, if_neg (fun z => e z.2)]
      exact cbad h
  · rw [if_neg c, if_pos rfl, if_neg (fun z => c z.1)]
    exact cbad h
theorem rs_hold (a v : Int32) : RS (fun σ => fX11_hold σ a v) (gHold a v) := by
  intro σ A h
  show ∃ σ', fX11_hold σ a v = _ ∧ _
  unfold fX11_hold gHold
  rw [isInI σ a 0 7 0 7 rfl rfl, cl_s, lt_e]
  by_cases c : 0 ≤ a ∧ a ≤ 7
  · rw [if_pos c, if_neg (by decide), isInI σ v (-128) 255 (-128) 255 rfl rfl, cl_s]
    by_cases e : -128 ≤ v ∧ v ≤ 255
    · obtain ⟨i, hi, ea⟩ := rngL (n := 7) c (by decide)
      rw [if_pos e, if_neg (by decide), if_pos ⟨c, e⟩]
      obtain ⟨s, b1, b2, b3⟩ := notes_ok h
      have hb := inb_nI (show i < 73 by omega) (show 73 < 2 ^ 31 by decide)
      have hh := b2.now.1.1 i (by omega)
      rw [Nat.zero_add] at hh
      rw [b1, cl_s, ea, Int32.zero_add, ck_t hb, lt_e, ck_t hb, lt_e, ix_nI (by omega), hh]
      refine ⟨_, rfl, b2.setD (fun j _ => by rw [sto_ne (by decide)]) (fun q _ _ hq => sto_ne hq) ⟨fun j hj => ?_, fun j hj => ?_, ?_, fun j hj => ?_⟩ (holdD_ok b2.now.2 i e), fun k hk => by rw [sto_ne (by omega)]; exact b3 k hk⟩
      · show _ = if j = i then v else A.d.hand j
        rw [Nat.zero_add]
        by_cases e2 : j = i
        · subst e2; rw [sto_eq, if_pos rfl]
        · rw [sto_nj e2, if_neg e2]
          have := b2.now.1.1 j hj
          rw [Nat.zero_add] at this
          exact this
      · rw [sto_nj (by omega)]; exact b2.now.1.2.1 j hj
      · rw [sto_nj (by omega)]; exact b2.now.1.2.2.1
      · rw [sto_nj (by omega)]; exact b2.now.1.2.2.2 j hj
    · rw [if_neg e, if_pos rfl, if_neg (fun z => e z.2)]
      exact rbad h
  · rw [if_neg c, if_pos rfl, if_neg (fun z => c z.1)]
    exact rbad h
/-- put -/
def putD (d : Dd) (i w : Nat) : Dd := (d.hand, fun j => if j = i then w else d.cel j, d.mc, d.met)
def gPut (a v : Int32) (A : Ab) : Int32 × Ab := if (0 ≤ a ∧ a ≤ 31) ∧ (0 ≤ v ∧ v ≤ 4095) then (nI (A.d.cel (ix a)), setD (remA A) (putD A.d (ix a) (ix v))) else bad A
theorem putD_ok {d : Dd} (h : Dok d) (i : Nat) {w : Nat} (hv : w < 4096) : Dok (putD d i w) := by
  refine ⟨fun j hj => ?_, h.2.1, h.2.2⟩
  show (if j = i then w else d.cel j) < 4096
  by_cases e : j = i
  · rw [if_pos e]; exact hv
  · rw [if_neg e]; exact h.1 j hj
theorem cs_put (a v : Int32) : CS (fun σ => fX10_put σ a v) (gPut a v) := by
  intro σ A h
  show ∃ σ', fX10_put σ a v = _ ∧ _
  unfold fX10_put gPut
  rw [ccell, cl_s, lt_e]
  by_cases c : 0 ≤ a ∧ a ≤ 31
  · rw [if_pos c, if_neg (by decide), cword, cl_s]
    by_cases e : 0 ≤ v ∧ v ≤ 4095
    · obtain ⟨i, hi, ea⟩ := rngL (n := 31) c (by decide)
      obtain ⟨w, hw, ev⟩ := word_of e
      rw [if_pos e, if_neg (by decide), if_pos ⟨c, e⟩]
      obtain ⟨s, b1, b2, b3⟩ := remember_ok h
      have hb := inb_nI (show i < 32 by omega) (show 32 < 2 ^ 31 by decide)
      rw [b1, cl_s, ea, ev, ck_t hb, lt_e, ck_t hb, lt_e, ix_nI (by omega), ix_nI (by omega), b2.now.1.1 i (by omega)]
      refine ⟨_, rfl, b2.setD (fun q hq => sto_ne (by omega)) ⟨fun j hj => ?_, fun j hj => ?_, ?_, fun j hj => ?_⟩ (putD_ok b2.now.2 i hw), fun k hk => by rw [sto_ne (by omega)]; exact b3 k hk⟩
      · show _ = nI (if j = i then w else A.d.cel j)
        by_cases e2 : j = i
        · subst e2; rw [sto_eq, if_pos rfl]
        · rw [sto_nj e2, if_neg e2]; exact b2.now.1.1 j hj
      · rw [sto_ne (by decide)]; exact b2.now.1.2.1 j hj
      · rw [sto_ne (by decide)]; exact b2.now.1.2.2.1
      · rw [sto_ne (by decide)]; exact b2.now.1.2.2.2 j hj
    · rw [if_neg e, if_pos rfl, if_neg (fun z => e z.2)]
      exact cbad h
  · rw [if_neg c, if_pos rfl, if_neg (fun z => c z.1)]
    exact cbad h
theorem rs_put (a v : Int32) : RS (fun σ => fX11_put σ a v) (gPut a v) := by
  intro σ A h
  show ∃ σ', fX11_put σ a v = _ ∧ _
  unfold fX11_put gPut
  rw [rcell, cl_s, lt_e]
  by_cases c : 0 ≤ a ∧ a ≤ 31
  · rw [if_pos c, if_neg (by decide), rword, cl_s]
    by_cases e : 0 ≤ v ∧ v ≤ 4095
    · obtain ⟨i, hi, ea⟩ := rngL (n := 31) c (by decide)
      obtain ⟨w, hw, ev⟩ := word_of e
      rw [if_pos e, if_neg (by decide), if_pos ⟨c, e⟩]
      obtain ⟨s, b1, b2, b3⟩ := notes_ok h
      have hb := inb_nI (show 8 + i < 73 by omega) (show 73 < 2 ^ 31 by decide)
      have hh := b2.now.1.2.1 i (by omega)
      rw [Nat.zero_add] at hh
      rw [b1, cl_s, ea, ev, e8, ck_t hb, lt_e, ck_t hb, lt_e, ix_nI (show 8 + i < 2 ^ 31 by omega), ix_nI (show i < 2 ^ 31 by omega), ix_nI (show w < 2 ^ 31 by omega), hh]
      refine ⟨_, rfl, b2.setD (fun j _ => by rw [sto_ne (by decide)]) (fun q _ _ hq => sto_ne hq) ⟨fun j hj => ?_, fun j hj => ?_, ?_, fun j hj => ?_⟩ (putD_ok b2.now.2 i hw), fun k hk => by rw [sto_ne (by omega)]; exact b3 k hk⟩
      · rw [sto_nj (by omega)]; exact b2.now.1.1 j hj
      · show _ = nI (if j = i then w else A.d.cel j)
        rw [Nat.zero_add]
        by_cases e2 : j = i
        · subst e2; rw [sto_eq, if_pos rfl]
        · rw [sto_nj (by omega), if_neg e2]
          have := b2.now.1.2.1 j hj
          rw [Nat.zero_add] at this
          exact this
      · rw [sto_nj (by omega)]; exact b2.now.1.2.2.1
      · rw [sto_nj (by omega)]; exact b2.now.1.2.2.2 j hj
    · rw [if_neg e, if_pos rfl, if_neg (fun z => e z.2)]
      exact rbad h
  · rw [if_neg c, if_pos rfl, if_neg (fun z => c z.1)]
    exact rbad h
