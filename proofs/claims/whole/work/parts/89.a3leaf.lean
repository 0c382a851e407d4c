/-! ===== greedy, leaf ===== -/
def allS (n : Nat) : Int32 := (1 <<< (nI n &&& 31)) - 1
theorem allS_bt : ∀ n, n ≤ 12 → ∀ i, i < 32 → bt (allS n) i = decide (i < n) := by decide +kernel
theorem isS_all {n : Nat} (hn : n ≤ 12) : isS n (allS n) := by
  intro i hi
  by_cases h : i < 32
  · rw [allS_bt n hn i h]; simp; omega
  · exact bt_big (by omega)
abbrev isTs (a : Int32) : Prop := (0 ≤ a ∧ a ≤ 4095) ∧ cnt (bt a) 32 ≤ 6
theorem cts_ok (σ : Mem) (a : Int32) : fX10_isTreeSet σ a = some (if isTs a then 1 else 0, σ) := by
  unfold fX10_isTreeSet
  rw [cword, cl_s]
  by_cases c : 0 ≤ a ∧ a ≤ 4095
  case neg => rw [if_neg c, if_pos rfl, if_neg (fun z => c z.1)]
  obtain ⟨w, hw, rfl⟩ := word_of c
  have hle := cnt_le (bt (nI w)) 32
  rw [if_pos c, if_neg (by decide), bitCount_ok σ (isW_nI hw), cl_s]
  by_cases e : cnt (bt (nI w)) 32 ≤ 6
  · rw [if_neg (show ¬ 6 < nI (cnt (bt (nI w)) 32) from nI_nlt (a := 6) e (by omega)), if_pos (show isTs (nI w) from ⟨c, e⟩)]
  · rw [if_pos (show 6 < nI (cnt (bt (nI w)) 32) from nI_lt (a := 6) (by omega) (by omega)), if_neg (fun z => e z.2)]
theorem rts_ok (σ : Mem) (a : Int32) : fX11_isTests σ a = some (if isTs a then 1 else 0, σ) := by
  unfold fX11_isTests
  rw [isInI σ a 0 4095 0 4095 rfl rfl, cl_s]
  by_cases c : 0 ≤ a ∧ a ≤ 4095
  case neg => rw [if_neg c, if_pos rfl, if_neg (fun z => c z.1)]
  have hle := cnt_le (bt a) 32
  rw [if_pos c, if_neg (by decide), size_ok, cl_s]
  by_cases e : cnt (bt a) 32 ≤ 6
  · rw [if_neg (show ¬ 6 < nI (cnt (bt a) 32) from nI_nlt (a := 6) e (by omega)), if_pos (show isTs a from ⟨c, e⟩)]
  · rw [if_pos (show 6 < nI (cnt (bt a) 32) from nI_lt (a := 6) (by omega) (by omega)), if_neg (fun z => e z.2)]
def ansG (A : Ab) (a b : Int32) : Int32 := if b = 0 then (trG A.F A.n 7 (allS A.n) a 0 (0, 0, 0)).1 else if b = 1 then (trG A.F A.n 7 (allS A.n) a 0 (0, 0, 0)).2.1 else if b = 2 then gB A.F A.n (allS A.n) a else (trG A.F A.n 7 (allS A.n) a 0 (0, 0, 0)).2.2
def gGreedy (a b : Int32) (A : Ab) : Int32 × Ab := if isTs a ∧ (0 ≤ b ∧ b ≤ 3) then (ansG A a b, A) else bad A
theorem all_ok {σ : Mem} {n : Nat} (h : σ 9 1 = nI n) : fX4_allOfThem σ = some (allS n, σ) := by
  unfold fX4_allOfThem allS
  rw [h]
theorem cs_greedy (a b : Int32) : CS (fun σ => fX10_greedy σ a b) (gGreedy a b) := by
  intro σ A h
  show ∃ σ', fX10_greedy σ a b = _ ∧ _
  unfold fX10_greedy gGreedy
  rw [cts_ok, cl_s, lt_e]
  by_cases c1 : isTs a
  case neg => rw [if_neg c1, if_pos rfl, if_neg (fun z => c1 z.1)]; exact cbad h
  rw [if_pos c1, if_neg (by decide), within_ok, cl_s]
  by_cases c2 : 0 ≤ b ∧ b ≤ 3
  case neg => rw [if_neg c2, if_pos rfl, if_neg (fun z => c2 z.2)]; exact cbad h
  rw [if_pos c2, if_neg (by decide), if_pos (show isTs a ∧ (0 ≤ b ∧ b ≤ 3) from ⟨c1, c2⟩)]
  have hn := h.mean.1.2.1
  unfold fX8_growGreedy
  obtain ⟨m1, a1, a2, a3⟩ := look_ok h.mean.1
  rw [a1, cl_s, lt_e, lt_e, lt_e]
  generalize hm4 : sto (sto (sto m1 287 3 0) 287 4 0) 287 5 0 = m4
  have q4 : ∀ q, q ≠ 287 → m4 q = m1 q := fun q hq => by rw [← hm4, sto_ne hq, sto_ne hq, sto_ne hq]
  have c4 : C3 m4 = (0, 0, 0) := by
    unfold C3
    rw [← hm4, sto_nj (by decide), sto_nj (by decide), sto_eq, sto_nj (by decide), sto_eq, sto_eq]
  have hC4 : CT m4 A.F A.n := fun c hc => by rw [q4 288 (by decide), q4 289 (by decide)]; exact a2 c hc
  have h9 : m4 9 1 = nI A.n := by rw [q4 9 (by decide), a3 9 (by decide) (by decide)]; exact h.mean.1.1
  rw [all_ok h9, cl_s, cgreedyBit_ok hn hC4 (isS_all hn), cl_s, lt_e, all_ok (n := A.n) (by rw [sto_ne (by decide)]; exact h9), cl_s]
  have hC5 : CT (sto m4 287 6 (gB A.F A.n (allS A.n) a)) A.F A.n := fun c hc => by rw [sto_ne (by decide), sto_ne (by decide)]; exact hC4 c hc
  obtain ⟨m6, b1, b2, b3, b4⟩ := grow_ok hn 6 8 (allS A.n) a 0 _ c1.2 (by decide) (by decide) hC5 (isS_all hn)
  rw [show fX8_grow 8 (sto m4 287 6 (gB A.F A.n (allS A.n) a)) a (allS A.n) 0 = some ((), m6) from b1, cl_s, cl_s]
  have hC3 : C3 (sto m4 287 6 (gB A.F A.n (allS A.n) a)) = (0, 0, 0) := by rw [← c4]; unfold C3; rw [sto_nj (by decide), sto_nj (by decide), sto_nj (by decide)]
  rw [hC3] at b2
  have hall : ∀ q, q ≠ 287 → q ≠ 288 → q ≠ 289 → m6 q = σ q := fun q x y z => by rw [b3 q x, sto_ne x, q4 q x, a3 q y z]
  refine ⟨m6, ?_, h.congr (fun q x y => hall q (by omega) (by omega) (by omega)), fun q hq => hall q (by omega) (by omega) (by omega)⟩
  have e3 : m6 287 3 = (trG A.F A.n 7 (allS A.n) a 0 (0, 0, 0)).1 := by rw [← b2]; rfl
  have e4 : m6 287 4 = (trG A.F A.n 7 (allS A.n) a 0 (0, 0, 0)).2.1 := by rw [← b2]; rfl
  have e5 : m6 287 5 = (trG A.F A.n 7 (allS A.n) a 0 (0, 0, 0)).2.2 := by rw [← b2]; rfl
  have e6 : m6 287 6 = gB A.F A.n (allS A.n) a := by rw [b4, sto_eq]
  rw [e3, e4, e5, e6]
  unfold ansG
  by_cases d0 : b = 0
  · rw [if_pos d0, if_pos d0]
  rw [if_neg d0, if_neg d0]
  by_cases d1 : b = 1
  · rw [if_pos d1, if_pos d1]
  rw [if_neg d1, if_neg d1]
  by_cases d2 : b = 2
  · rw [if_pos d2, if_pos d2]
  rw [if_neg d2, if_neg d2]
theorem rs_greedy (a b : Int32) : RS (fun σ => fX11_greedy σ a b) (gGreedy a b) := by
  intro σ A h
  show ∃ σ', fX11_greedy σ a b = _ ∧ _
  unfold fX11_greedy gGreedy
  rw [rts_ok, cl_s, lt_e]
  by_cases c1 : isTs a
  case neg => rw [if_neg c1, if_pos rfl, if_neg (fun z => c1 z.1)]; exact rbad h
  rw [if_pos c1, if_neg (by decide), isInI σ b 0 3 0 3 rfl rfl, cl_s]
  by_cases c2 : 0 ≤ b ∧ b ≤ 3
  case neg => rw [if_neg c2, if_pos rfl, if_neg (fun z => c2 z.2)]; exact rbad h
  rw [if_pos c2, if_neg (by decide), if_pos (show isTs a ∧ (0 ≤ b ∧ b ≤ 3) from ⟨c1, c2⟩)]
  have hn := h.forms.2.1
  rw [h.forms.1, lt_e, lt_e, lt_e, lt_e, show (1 : Int32) <<< (nI A.n &&& 31) - 1 = allS A.n from rfl]
  generalize hm4 : sto (sto (sto σ 362 31 0) 362 32 0) 362 33 0 = m4
  have q4 : ∀ q, q ≠ 362 → m4 q = σ q := fun q hq => by rw [← hm4, sto_ne hq, sto_ne hq, sto_ne hq]
  have hR4 : RInv m4 A := h.congr (fun q x y => q4 q (by omega)) (fun j hj => by rw [← hm4, sto_nj (by omega), sto_nj (by omega), sto_nj (by omega)])
  have c4 : R3 m4 = (0, 0, 0) := by
    unfold R3
    rw [← hm4, sto_nj (by decide), sto_nj (by decide), sto_eq, sto_nj (by decide), sto_eq, sto_eq]
  obtain ⟨m6, b1, b2, b3, b4⟩ := goes_ok 6 8 (allS A.n) a 0 m4 c1.2 (by decide) (by decide) hR4 (isS_all hn)
  rw [show fX11_goesGreedy 8 m4 (allS A.n) a 0 = some ((), m6) from b1, cl_s, rgreedyBit_ok b4 (isS_all hn), cl_s]
  rw [c4] at b2
  refine ⟨m6, ?_, b4, fun q hq => by rw [b3 q (by omega), q4 q (by omega)]⟩
  have e3 : m6 362 31 = (trG A.F A.n 7 (allS A.n) a 0 (0, 0, 0)).1 := by rw [← b2]; rfl
  have e4 : m6 362 32 = (trG A.F A.n 7 (allS A.n) a 0 (0, 0, 0)).2.1 := by rw [← b2]; rfl
  have e5 : m6 362 33 = (trG A.F A.n 7 (allS A.n) a 0 (0, 0, 0)).2.2 := by rw [← b2]; rfl
  rw [e3, e4, e5]
  unfold ansG
  by_cases d0 : b = 0
  · rw [if_pos d0, if_pos d0]
  rw [if_neg d0, if_neg d0]
  by_cases d1 : b = 1
  · rw [if_pos d1, if_pos d1]
  rw [if_neg d1, if_neg d1]
  by_cases d2 : b = 2
  · rw [if_pos d2, if_pos d2]
  rw [if_neg d2, if_neg d2]
/-- leaf -/
def lfG (F : Nat → Fm) (n : Nat) (w : Int32) : Nat → Int32 → Int32 → Int32
  | 0, S, _ => S
  | k + 1, S, T => if gB F n S T = -1 then S else lfG F n w k (sdS F n S (ix (gB F n S T)) (bt w (ix (gB F n S T)))) (clr T (ix (gB F n S T)))
def gLeaf (a w : Int32) (A : Ab) : Int32 × Ab := if isTs a ∧ (0 ≤ w ∧ w ≤ 4095) then (lfG A.F A.n w 6 (allS A.n) a, A) else bad A
theorem lfG_s {F : Nat → Fm} {n : Nat} {w : Int32} {k : Nat} (hk : k < 6) (S T : Int32) : lfG F n w (6 - k) S T = if gB F n S T = -1 then S else lfG F n w (6 - (k + 1)) (sdS F n S (ix (gB F n S T)) (bt w (ix (gB F n S T)))) (clr T (ix (gB F n S T))) := by
  obtain ⟨j, h1, h2⟩ : ∃ j, 6 - k = j + 1 ∧ 6 - (k + 1) = j := ⟨5 - k, by omega, by omega⟩
  rw [h1, h2, lfG]
theorem cs_leaf (a w : Int32) : CS (fun σ => fX10_leaf σ a w) (gLeaf a w) := by
  intro σ A h
  show ∃ σ', fX10_leaf σ a w = _ ∧ _
  unfold fX10_leaf gLeaf
  rw [cts_ok, cl_s, lt_e]
  by_cases c1 : isTs a
  case neg => rw [if_neg c1, if_pos rfl, if_neg (fun z => c1 z.1)]; exact cbad h
  rw [if_pos c1, if_neg (by decide), cword, cl_s]
  by_cases c2 : 0 ≤ w ∧ w ≤ 4095
  case neg => rw [if_neg c2, if_pos rfl, if_neg (fun z => c2 z.2)]; exact cbad h
  rw [if_pos c2, if_neg (by decide), if_pos (show isTs a ∧ (0 ≤ w ∧ w ≤ 4095) from ⟨c1, c2⟩)]
  have hn := h.mean.1.2.1
  unfold fX8_candidatesFor
  obtain ⟨m1, a1, a2, a3⟩ := look_ok h.mean.1
  have h9 : m1 9 1 = nI A.n := by rw [a3 9 (by decide) (by decide)]; exact h.mean.1.1
  rw [a1, cl_s, all_ok h9, cl_s]
  have key : fX8_candidatesFor_L18 (fun (m11 : Mem) (x12 : Int32) => some (x12, m11)) (fun (m15 : Mem) (x16 : Int32) => some (x16, m15)) w 5000 m1 a (allS A.n) 0 = some (lfG A.F A.n w 6 (allS A.n) a, m1) := by
    refine loopD (fX8_candidatesFor_L18 (fun (m11 : Mem) (x12 : Int32) => some (x12, m11)) (fun (m15 : Mem) (x16 : Int32) => some (x16, m15)) w) (fX8_candidatesFor_L18_b (fun (m11 : Mem) (x12 : Int32) => some (x12, m11)) (fun (m15 : Mem) (x16 : Int32) => some (x16, m15)) w) (fun _ _ _ _ _ => rfl) 6
      (fun k m T S => m = m1 ∧ isS A.n S ∧ lfG A.F A.n w 6 (allS A.n) a = lfG A.F A.n w (6 - k) S T)
      (fun r => r = some (lfG A.F A.n w 6 (allS A.n) a, m1)) ?_ ?_ 5000 0 m1 a (allS A.n) (by omega) (by omega) ⟨rfl, isS_all hn, rfl⟩
    · rintro m T S rec ⟨rfl, hS, e⟩
      unfold fX8_candidatesFor_L18_b
      rw [if_neg (by decide), e, Nat.sub_self, lfG]
    · rintro k m T S rec hk ⟨rfl, hS, e⟩
      unfold fX8_candidatesFor_L18_b
      rw [lfG_s hk] at e
      rw [if_pos (show nI k < 6 from nI_lt (b := 6) hk (by decide)), cgreedyBit_ok hn a2 hS, cl_s]
      rcases gB_or A.F A.n S T with hg | ⟨b, hb, hg, hbt⟩
      · left
        rw [if_pos hg] at e
        rw [if_pos hg, e]
      · right
        have hne : ¬ nI b = -1 := fun z => absurd (nI_pos' (show b < 2 ^ 31 by omega)) (by rw [z]; decide)
        have hB := inb_nI hb (show 12 < 2 ^ 31 by decide)
        rw [if_neg (by rw [hg]; exact hne), hg, ix_nI (by omega)] at e
        rw [hg, if_neg hne, lt_e, lt_e, shr1 (by omega), ck_t hB, ck_t hB, ix_nI (by omega), (a2 b hb).1, (a2 b hb).2, nI_1]
        by_cases z : bt w b = true
        · rw [if_pos z, if_neg (by decide)]
          simp only [lt_e]
          rw [sd_t]
          rw [z] at e
          exact ⟨m, _, _, ⟨rfl, isS_sd hS b true, e⟩, rfl⟩
        · have z' : bt w b = false := by simpa using z
          rw [if_neg z, if_pos rfl]
          simp only [lt_e]
          rw [sd_f]
          rw [z'] at e
          exact ⟨m, _, _, ⟨rfl, isS_sd hS b false, e⟩, rfl⟩
  rw [key, cl_s]
  exact ⟨m1, rfl, h.congr (fun q x y => a3 q (by omega) (by omega)), fun q hq => a3 q (by omega) (by omega)⟩
theorem rs_leaf (a w : Int32) : RS (fun σ => fX11_leaf σ a w) (gLeaf a w) := by
  intro σ A h
  show ∃ σ', fX11_leaf σ a w = _ ∧ _
  unfold fX11_leaf gLeaf
  rw [rts_ok, cl_s, lt_e]
  by_cases c1 : isTs a
  case neg => rw [if_neg c1, if_pos rfl, if_neg (fun z => c1 z.1)]; exact rbad h
  rw [if_pos c1, if_neg (by decide), rword, cl_s]
  by_cases c2 : 0 ≤ w ∧ w ≤ 4095
  case neg => rw [if_neg c2, if_pos rfl, if_neg (fun z => c2 z.2)]; exact rbad h
  rw [if_pos c2, if_neg (by decide), if_pos (show isTs a ∧ (0 ≤ w ∧ w ≤ 4095) from ⟨c1, c2⟩)]
  have hn := h.forms.2.1
  rw [h.forms.1, lt_e, show (1 : Int32) <<< (nI A.n &&& 31) - 1 = allS A.n from rfl, rgreedyBit_ok h (isS_all hn), cl_s]
  have loop : ∀ (k fuel : Nat) (S T : Int32), cnt (bt T) 32 ≤ k → k < fuel → isS A.n S → fX11_leaf_L43 (fun (m18 : Mem) (x19 : Int32) => some (x19, m18)) w fuel σ S T (gB A.F A.n S T) = some (lfG A.F A.n w k S T, σ) := by
    intro k
    induction k with
    | zero =>
      intro fuel S T hT hf hS
      cases fuel with
      | zero => omega
      | succ fuel =>
        show fX11_leaf_L43_b (fun (m18 : Mem) (x19 : Int32) => some (x19, m18)) w (fX11_leaf_L43 (fun (m18 : Mem) (x19 : Int32) => some (x19, m18)) w fuel) σ S T (gB A.F A.n S T) = _
        unfold fX11_leaf_L43_b
        rw [gB_0 (by omega), if_pos (by decide), lfG]
    | succ k ih =>
      intro fuel S T hT hf hS
      cases fuel with
      | zero => omega
      | succ fuel =>
        show fX11_leaf_L43_b (fun (m18 : Mem) (x19 : Int32) => some (x19, m18)) w (fX11_leaf_L43 (fun (m18 : Mem) (x19 : Int32) => some (x19, m18)) w fuel) σ S T (gB A.F A.n S T) = _
        unfold fX11_leaf_L43_b
        rw [lfG]
        rcases gB_or A.F A.n S T with hg | ⟨b, hb, hg, hbt⟩
        · rw [hg, if_pos (by decide), if_pos rfl]
        · have hne : ¬ nI b = -1 := fun z => absurd (nI_pos' (show b < 2 ^ 31 by omega)) (by rw [z]; decide)
          have hcl := cnt_clr (show b < 32 by omega) hbt
          rw [hg, if_neg (nI_pos (by omega)), if_neg hne, shr1 (by omega), side_ok h hS hb (bt w b), cl_s, lt_e, rgreedyBit_ok h (isS_sd hS b (bt w b)), cl_s, ix_nI (by omega)]
          exact ih fuel (sdS A.F A.n S b (bt w b)) (clr T b) (by omega) (by omega) (isS_sd hS b _)
  rw [loop 6 5000 (allS A.n) a c1.2 (by decide) (isS_all hn)]
  exact ⟨σ, rfl, h, fun _ _ => rfl⟩
