/-! ===== steps: the class ===== -/
/-- where it is, how many returns are kept, which -/
abbrev Wl : Type := Nat × Nat × (Nat → Nat)
def Wok (s : Wl) : Prop := s.1 < 32 ∧ s.2.1 ≤ 4 ∧ ∀ i, s.2.2 i < 32
def keepW (c : Nat) (rt : Nat → Nat) (x : Nat) : Nat × (Nat → Nat) := if c = 4 then (4, fun i => if i = 3 then x else rt (i + 1)) else (c + 1, fun i => if i = c then x else rt i)
def tgt (h : Nat) (x : Int32) : Nat := ix ((nI h + x) &&& 31)
def goW (f : Fm) (w : Int32) (s : Wl) : Wl :=
  if fkd f = 1 then (tgt s.1 (firstP f w), s.2.1, s.2.2)
  else if fkd f = 3 then (tgt s.1 (firstP f w), keepW s.2.1 s.2.2 (tgt s.1 1))
  else if fkd f = 5 then (s.2.2 (s.2.1 - 1), s.2.1 - 1, s.2.2)
  else if fkd f = 6 ∧ firstP f w % 2 = 0 then (tgt s.1 (firstP f w), keepW s.2.1 s.2.2 (tgt s.1 1))
  else (tgt s.1 1, s.2.1, s.2.2)
def stepP (F : Nat → Fm) (n : Nat) (cel : Nat → Nat) (s : Wl) : Option Wl :=
  if mnN F n (nI (cel s.1)) < n then (if fkd (F (mnN F n (nI (cel s.1)))) = 5 ∧ s.2.1 = 0 then none else some (goW (F (mnN F n (nI (cel s.1)))) (nI (cel s.1)) s)) else none
theorem and31 (x : Int32) : ∃ v, v < 32 ∧ x &&& 31 = nI v := by
  have hv : (x &&& 31).toBitVec.toNat < 2 ^ 5 := by
    apply Nat.lt_pow_two_of_testBit
    intro i hi
    show bt (x &&& 31) i = false
    rw [bt_and, show (31 : Int32) = nI (2 ^ 5 - 1) from rfl, bt_nI (n := 2 ^ 5 - 1) (by decide), Nat.testBit_two_pow_sub_one]
    have : ¬ i < 5 := by omega
    simp [this]
  refine ⟨_, hv, ?_⟩
  apply bt_ext
  intro i _
  rw [bt_nI (by omega)]; rfl
theorem tgt_nI (h : Nat) (x : Int32) : (nI h + x) &&& 31 = nI (tgt h x) ∧ tgt h x < 32 := by
  obtain ⟨v, hv, e⟩ := and31 (nI h + x)
  have : tgt h x = v := by unfold tgt; rw [e, ix_nI (by omega)]
  rw [this]; exact ⟨e, hv⟩
theorem keepW_ok {c : Nat} {rt : Nat → Nat} {x : Nat} (hc : c ≤ 4) (hr : ∀ i, rt i < 32) (hx : x < 32) : (keepW c rt x).1 ≤ 4 ∧ ∀ i, (keepW c rt x).2 i < 32 := by
  unfold keepW
  by_cases e : c = 4
  · rw [if_pos e]
    refine ⟨Nat.le_refl 4, fun i => ?_⟩
    show (if i = 3 then x else rt (i + 1)) < 32
    split
    · exact hx
    · exact hr _
  · rw [if_neg e]
    refine ⟨by show c + 1 ≤ 4; omega, fun i => ?_⟩
    show (if i = c then x else rt i) < 32
    split
    · exact hx
    · exact hr _
theorem goW_ok {f : Fm} {w : Int32} {s : Wl} (h : Wok s) : Wok (goW f w s) := by
  obtain ⟨h1, h2, h3⟩ := h
  have hk := keepW_ok h2 h3 (tgt_nI s.1 1).2
  unfold goW
  split
  · exact ⟨(tgt_nI _ _).2, h2, h3⟩
  · split
    · exact ⟨(tgt_nI _ _).2, hk.1, hk.2⟩
    · split
      · exact ⟨h3 _, by show s.2.1 - 1 ≤ 4; omega, h3⟩
      · split
        · exact ⟨(tgt_nI _ _).2, hk.1, hk.2⟩
        · exact ⟨(tgt_nI _ _).2, h2, h3⟩
theorem stepP_ok {F : Nat → Fm} {n : Nat} {cel : Nat → Nat} {s s' : Wl} (h : Wok s) (e : stepP F n cel s = some s') : Wok s' := by
  unfold stepP at e
  split at e
  · split at e
    · cases e
    · cases e; exact goW_ok h
  · cases e
def CW (σ : Mem) (s : Wl) : Prop := σ 296 5 = nI s.1 ∧ σ 296 4 = nI s.2.1 ∧ ∀ i, i < s.2.1 → σ 297 i = nI (s.2.2 i)
theorem keepReturn_ok {σ : Mem} {c : Nat} {rt : Nat → Nat} {x : Nat} (hc : c ≤ 4) (h4 : σ 296 4 = nI c) (hr : ∀ i, i < c → σ 297 i = nI (rt i)) :
    ∃ σ', fX9_keepReturn σ (nI x) = some ((), σ') ∧ (∀ q, q ≠ 296 → q ≠ 297 → σ' q = σ q) ∧ (∀ j, j ≠ 4 → σ' 296 j = σ 296 j) ∧ σ' 296 4 = nI (keepW c rt x).1 ∧ ∀ i, i < (keepW c rt x).1 → σ' 297 i = nI ((keepW c rt x).2 i) := by
  unfold fX9_keepReturn
  simp only [lt_e]
  rw [h4]
  by_cases e : c = 4
  · subst e
    have k1 : keepW 4 rt x = (4, fun i => if i = 3 then x else rt (i + 1)) := by unfold keepW; rw [if_pos rfl]
    rw [if_pos (show nI 4 = 4 from rfl), sto_eq, show nI 4 - 1 = nI 3 from rfl, ck_t (by decide), show ix (1 : Int32) = 1 from rfl, show ix (0 : Int32) = 0 from rfl, show ix (nI 3) = 3 from rfl]
    have hs : ∀ q, q ≠ 297 → cpy (sto σ 296 4 (nI 3)) 297 297 1 0 3 q = sto σ 296 4 (nI 3) q := fun q hq => by rw [cpy, if_neg hq]
    have h296 : cpy (sto σ 296 4 (nI 3)) 297 297 1 0 3 296 4 = nI 3 := by rw [hs 296 (by decide), sto_eq]
    rw [h296, ck_t (by decide), show ix (nI 3) = 3 from rfl, sto_ne (show (296 : Nat) ≠ 297 by decide), h296, k1]
    refine ⟨_, rfl, fun q a b => by rw [sto_ne a, sto_ne b, hs q b, sto_ne a], fun j hj => by rw [sto_nj hj, sto_ne (by decide), hs 296 (by decide), sto_nj hj], by rw [sto_eq]; rfl, fun i hi => ?_⟩
    show _ = nI (if i = 3 then x else rt (i + 1))
    have hi4 : i < 4 := hi
    rw [sto_ne (by decide)]
    by_cases z : i = 3
    · subst z; rw [sto_eq, if_pos rfl]
    · rw [sto_nj z, if_neg z, cpy, if_pos rfl, pk_cpy_in (Nat.zero_le _) (by omega), sto_ne (by decide), Nat.sub_zero, Nat.add_comm 1 i]
      exact hr (i + 1) (by omega)
  · have k1 : keepW c rt x = (c + 1, fun i => if i = c then x else rt i) := by unfold keepW; rw [if_neg e]
    rw [if_neg (show ¬ nI c = 4 from fun z => e ((nI_eq (b := 4) (by omega) (by decide)).mp z)), ck_t (inb_nI (show c < 4 by omega) (by decide)), ix_nI (by omega), sto_ne (show (296 : Nat) ≠ 297 by decide), h4, k1, nI_1]
    refine ⟨_, rfl, fun q a b => by rw [sto_ne a, sto_ne b], fun j hj => by rw [sto_nj hj, sto_ne (by decide)], sto_eq, fun i hi => ?_⟩
    show _ = nI (if i = c then x else rt i)
    have hi4 : i < c + 1 := hi
    rw [sto_ne (by decide)]
    by_cases z : i = c
    · subst z; rw [sto_eq, if_pos rfl]
    · rw [sto_nj z, if_neg z]; exact hr i (by omega)
/-- where a step comes to -/
theorem cellBehind_ok {σ : Mem} {s : Wl} (hw : CW σ s) (ho : Wok s) {f : Fm} (hf : Fok f) (w : Int32) (h5 : fkd f = 5 → 0 < s.2.1) :
    ∃ σ', fX9_cellBehind σ (nI (fkd f)) (firstP f w) = some (nI (goW f w s).1, σ') ∧ (∀ q, q ≠ 296 → q ≠ 297 → σ' q = σ q) ∧ (∀ j, j ≠ 4 → σ' 296 j = σ 296 j) ∧ σ' 296 4 = nI (goW f w s).2.1 ∧ ∀ i, i < (goW f w s).2.1 → σ' 297 i = nI ((goW f w s).2.2 i) := by
  obtain ⟨w1, w2, w3⟩ := hw
  obtain ⟨o1, o2, o3⟩ := ho
  have hk := hf.1
  obtain ⟨σ1, r1, r2, r3, r4, r5⟩ := keepReturn_ok (x := tgt s.1 1) o2 w2 w3
  have t1 := tgt_nI s.1 1
  have t2 := tgt_nI s.1 (firstP f w)
  unfold fX9_cellBehind
  rw [lt_e, lt_e, w1, t1.1, t2.1, r1, cl_s]
  have e1 : (nI (fkd f) = (1 : Int32)) ↔ fkd f = 1 := kdeq (c := 1) hk (by decide)
  have e2 : (nI (fkd f) = (2 : Int32)) ↔ fkd f = 2 := kdeq (c := 2) hk (by decide)
  have e3 : (nI (fkd f) = (3 : Int32)) ↔ fkd f = 3 := kdeq (c := 3) hk (by decide)
  have e4 : (nI (fkd f) = (4 : Int32)) ↔ fkd f = 4 := kdeq (c := 4) hk (by decide)
  have e5 : (nI (fkd f) = (5 : Int32)) ↔ fkd f = 5 := kdeq (c := 5) hk (by decide)
  have e6 : (nI (fkd f) = (6 : Int32)) ↔ fkd f = 6 := kdeq (c := 6) hk (by decide)
  simp only [e1, e2, e3, e4, e5, e6]
  have hcase : fkd f = 0 ∨ fkd f = 1 ∨ fkd f = 2 ∨ fkd f = 3 ∨ fkd f = 4 ∨ fkd f = 5 ∨ fkd f = 6 := by omega
  unfold goW
  rcases hcase with k | k | k | k | k | k | k
  · simp only [k]
    exact ⟨σ, rfl, fun _ _ _ => rfl, fun _ _ => rfl, w2, w3⟩
  · simp only [k]
    exact ⟨σ, rfl, fun _ _ _ => rfl, fun _ _ => rfl, w2, w3⟩
  · simp only [k]
    exact ⟨σ, rfl, fun _ _ _ => rfl, fun _ _ => rfl, w2, w3⟩
  · simp only [k]
    exact ⟨σ1, rfl, r2, r3, r4, r5⟩
  · simp only [k]
    exact ⟨σ, rfl, fun _ _ _ => rfl, fun _ _ => rfl, w2, w3⟩
  · have hp := h5 k
    obtain ⟨c, hc⟩ : ∃ c, s.2.1 = c + 1 := ⟨s.2.1 - 1, by omega⟩
    simp only [k]
    unfold fX9_latestReturn
    rw [w2, hc, if_neg (show ¬ nI (c + 1) = 0 from nI_ne0 (by omega) (by omega)), lt_e, sto_eq, m1_nI, ck_t (inb_nI (show c < 4 by omega) (by decide)), cl_s, ix_nI (by omega), sto_ne (show (297 : Nat) ≠ 296 by decide), w3 c (by omega)]
    refine ⟨_, rfl, fun q a b => sto_ne a, fun j hj => sto_nj hj, sto_eq, fun i hi => ?_⟩
    rw [sto_ne (by decide)]; exact w3 i (by have hi2 : i < c + 1 - 1 := hi; omega)
  · by_cases z : firstP f w % 2 = 0
    · simp only [k, z]
      exact ⟨σ1, rfl, r2, r3, r4, r5⟩
    · simp only [k, z]
      exact ⟨σ, rfl, fun _ _ _ => rfl, fun _ _ => rfl, w2, w3⟩
theorem stepOn_ok {σ : Mem} {A : Ab} (h : CInv σ A) {s : Wl} (hw : CW σ s) (ho : Wok s) :
    ∃ σ', CInv σ' A ∧ Hi σ σ' ∧ ((stepP A.F A.n A.d.cel s = none ∧ fX9_stepOn σ = some (0, σ') ∧ CW σ' s ∧ σ' 296 = σ 296) ∨
      (∃ s', stepP A.F A.n A.d.cel s = some s' ∧ fX9_stepOn σ = some (1, σ') ∧ CW σ' s' ∧ σ' 296 6 = σ 296 6 + 1 ∧ σ' 296 7 = σ 296 7 + cstW A.F A.n (nI (A.d.cel s.1)) ∧ σ' 296 8 = σ 296 8 ||| (1 <<< (nI s.1 &&& 31)))) := by
  have hn := h.mean.1.2.1
  obtain ⟨o1, o2, o3⟩ := ho
  have hcel := h.now.2.1 s.1 o1
  obtain ⟨s1, b1, b2⟩ := meaning_ex h.mean hcel
  have hI := h.kx b2
  have hmm := mnN_lt (F := A.F) hn (nI (A.d.cel s.1))
  have h296 : s1 296 = σ 296 := b2.2 296 (by decide)
  have h297 : s1 297 = σ 297 := b2.2 297 (by decide)
  have hw1 : CW s1 s := by unfold CW; rw [h296, h297]; exact hw
  unfold fX9_stepOn stepP
  rw [hw.1, ck_t (inb_nI o1 (by decide)), ix_nI (by omega), lt_e, h.now.1.1 _ o1, b1, cl_s, has4n b2.1.1 (by omega), cl_s]
  by_cases e : mnN A.F A.n (nI (A.d.cel s.1)) < A.n
  case neg =>
    refine ⟨s1, hI, b2.hi, Or.inl ⟨by rw [if_neg e], by rw [if_neg e, if_pos rfl], hw1, h296⟩⟩
  have hf := b2.1.1.2.2 _ e
  have hk := hf.2.1
  have e5 : (nI (fkd (A.F (mnN A.F A.n (nI (A.d.cel s.1))))) = (5 : Int32)) ↔ fkd (A.F (mnN A.F A.n (nI (A.d.cel s.1)))) = 5 := kdeq (c := 5) hk (by decide)
  rw [if_pos e, if_pos e, if_neg (show ¬ (1 : Int32) = 0 by decide), ck_t (inb_nI (show mnN A.F A.n (nI (A.d.cel s.1)) < 12 by omega) (by decide)), ix_nI (by omega), hf.1.1.1, hw1.2.1]
  simp only [e5, lt_e]
  have h40 : (nI s.2.1 = (0 : Int32)) ↔ s.2.1 = 0 := nI_eq (b := 0) (by omega) (by decide)
  simp only [h40]
  have hcw : cstW A.F A.n (nI (A.d.cel s.1)) = costP (A.F (mnN A.F A.n (nI (A.d.cel s.1)))) (nI (A.d.cel s.1)) := by unfold cstW; rw [if_pos e]
  rw [hcw]
  generalize hg : mnN A.F A.n (nI (A.d.cel s.1)) = m at *
  by_cases z : fkd (A.F m) = 5 ∧ s.2.1 = 0
  · rw [if_pos z, if_pos z.1, if_pos z.2]
    exact ⟨s1, hI, b2.hi, Or.inl ⟨rfl, rfl, hw1, h296⟩⟩
  rw [if_neg z]
  -- the step itself
  have core : ∃ σ', CInv σ' A ∧ Hi σ σ' ∧ (cl (fX3_costOf (11 + 22 * m) (sto s1 296 8 (s1 296 8 ||| 1 <<< (s1 296 5 &&& 31))) (nI (A.d.cel s.1))) fun r9 m8 =>
      cl (fX3_firstIn (11 + 22 * m) (sto (sto m8 296 7 (sto s1 296 8 (s1 296 8 ||| 1 <<< (s1 296 5 &&& 31)) 296 7 + r9)) 296 6 (sto m8 296 7 (sto s1 296 8 (s1 296 8 ||| 1 <<< (s1 296 5 &&& 31)) 296 7 + r9) 296 6 + 1)) (nI (A.d.cel s.1))) fun r13 m12 =>
      cl (fX9_cellBehind m12 (sto (sto m8 296 7 (sto s1 296 8 (s1 296 8 ||| 1 <<< (s1 296 5 &&& 31)) 296 7 + r9)) 296 6 (sto m8 296 7 (sto s1 296 8 (s1 296 8 ||| 1 <<< (s1 296 5 &&& 31)) 296 7 + r9) 296 6 + 1) (11 + 22 * m) 0) r13) fun r15 m14 => some ((1 : Int32), sto m14 296 5 r15)) = some (1, σ') ∧ CW σ' (goW (A.F m) (nI (A.d.cel s.1)) s) ∧ σ' 296 6 = σ 296 6 + 1 ∧ σ' 296 7 = σ 296 7 + costP (A.F m) (nI (A.d.cel s.1)) ∧ σ' 296 8 = σ 296 8 ||| (1 <<< (nI s.1 &&& 31)) := by
    have hf1 : CForm (sto s1 296 8 (s1 296 8 ||| 1 <<< (s1 296 5 &&& 31))) (11 + 22 * m) (A.F m) := hf.1.congr (fun q _ _ => sto_ne (by omega))
    rw [costOf_ok (by omega) hf1 hf.2, cl_s]
    generalize hm2 : sto (sto (sto s1 296 8 (s1 296 8 ||| 1 <<< (s1 296 5 &&& 31))) 296 7 (sto s1 296 8 (s1 296 8 ||| 1 <<< (s1 296 5 &&& 31)) 296 7 + costP (A.F m) (nI (A.d.cel s.1)))) 296 6 (sto (sto s1 296 8 (s1 296 8 ||| 1 <<< (s1 296 5 &&& 31))) 296 7 (sto s1 296 8 (s1 296 8 ||| 1 <<< (s1 296 5 &&& 31)) 296 7 + costP (A.F m) (nI (A.d.cel s.1))) 296 6 + 1) = m2
    have q2 : ∀ q, q ≠ 296 → m2 q = s1 q := fun q hq => by rw [← hm2, sto_ne hq, sto_ne hq, sto_ne hq]
    have j6 : m2 296 6 = σ 296 6 + 1 := by rw [← hm2, sto_eq, sto_nj (by decide), sto_nj (by decide), h296]
    have j7 : m2 296 7 = σ 296 7 + costP (A.F m) (nI (A.d.cel s.1)) := by rw [← hm2, sto_nj (by decide), sto_eq, sto_nj (by decide), h296]
    have j8 : m2 296 8 = σ 296 8 ||| (1 <<< (nI s.1 &&& 31)) := by rw [← hm2, sto_nj (by decide), sto_nj (by decide), sto_eq, h296, hw.1]
    have j45 : ∀ j, j ≠ 6 → j ≠ 7 → j ≠ 8 → m2 296 j = σ 296 j := fun j a b c => by rw [← hm2, sto_nj a, sto_nj b, sto_nj c, h296]
    have hf2 : CForm m2 (11 + 22 * m) (A.F m) := hf.1.congr (fun q _ _ => q2 q (by omega))
    have hw2 : CW m2 s := ⟨by rw [j45 5 (by decide) (by decide) (by decide)]; exact hw.1, by rw [j45 4 (by decide) (by decide) (by decide)]; exact hw.2.1, fun i hi => by rw [q2 297 (by decide), h297]; exact hw.2.2 i hi⟩
    rw [firstIn_ok (by omega) hf2, cl_s, hf2.1.1]
    obtain ⟨m3, c1, c2, c3, c4, c5⟩ := cellBehind_ok hw2 ⟨o1, o2, o3⟩ hf.2 (nI (A.d.cel s.1)) (fun y => by
      have : ¬ s.2.1 = 0 := fun x => z ⟨y, x⟩
      omega)
    rw [c1, cl_s]
    have hall : ∀ q, q ≠ 296 → q ≠ 297 → sto m3 296 5 (nI (goW (A.F m) (nI (A.d.cel s.1)) s).1) q = s1 q := fun q a b => by rw [sto_ne a, c2 q a b, q2 q a]
    refine ⟨_, hI.congr (fun q a b => hall q (by omega) (by omega)), fun q hq => by rw [hall q (by omega) (by omega)]; exact b2.hi q hq, rfl, ⟨sto_eq, by rw [sto_nj (by decide)]; exact c4, fun i hi => by rw [sto_ne (by decide)]; exact c5 i hi⟩, ?_, ?_, ?_⟩
    · rw [sto_nj (by decide), c3 6 (by decide)]; exact j6
    · rw [sto_nj (by decide), c3 7 (by decide)]; exact j7
    · rw [sto_nj (by decide), c3 8 (by decide)]; exact j8
  obtain ⟨σ', d1, d2, d3, d4, d5, d6, d7⟩ := core
  refine ⟨σ', d1, d2, Or.inr ⟨_, rfl, ?_, d4, d5, d6, d7⟩⟩
  by_cases y : fkd (A.F m) = 5
  · rw [if_pos y, if_neg (fun x => z ⟨y, x⟩)]; exact d3
  · rw [if_neg y]; exact d3
