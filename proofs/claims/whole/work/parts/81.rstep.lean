/-! ===== steps: the reference ===== -/
theorem round_ok (σ : Mem) (y : Int32) : fX11_round σ y = some (y &&& 31, σ) := by
  have h31 : y &&& 31 = nI (y.toBitVec.toNat % 32) := by
    apply bt_ext
    intro i _
    rw [bt_and, bt_nI (by omega)]
    show (bt y i && bt 31 i) = (y.toBitVec.toNat % 2 ^ 5).testBit i
    rw [Nat.testBit_mod_two_pow, show (31 : Int32) = nI (2 ^ 5 - 1) from rfl, bt_nI (n := 2 ^ 5 - 1) (by decide), Nat.testBit_two_pow_sub_one, Bool.and_comm]
    rfl
  have hy : y.toInt = if 2 * y.toBitVec.toNat < 2 ^ 32 then (y.toBitVec.toNat : Int) else (y.toBitVec.toNat : Int) - ((2 ^ 32 : Nat) : Int) := BitVec.toInt_eq_toNat_cond _
  have hN : y.toBitVec.toNat < 2 ^ 32 := y.toBitVec.isLt
  generalize y.toBitVec.toNat = N at *
  have h32 : (32 : Int32).toInt = 32 := rfl
  have hmod : (y % 32).toInt = y.toInt.tmod 32 := by rw [Int32.toInt_mod, h32]
  have hz : (0 : Int32).toInt = 0 := rfl
  have hnI : (nI (N % 32)).toInt = ((N % 32 : Nat) : Int) := nI_toInt (by omega)
  unfold fX11_round
  rw [lt_e, h31]
  by_cases c : 2 * N < 2 ^ 32
  · rw [if_pos c] at hy
    have h1 : y.toInt.tmod 32 = ((N % 32 : Nat) : Int) := by
      rw [Int.tmod_eq_emod_of_nonneg (by omega), hy]; omega
    have hnn : ¬ y % 32 < 0 := by rw [Int32.lt_iff_toInt_lt, hmod, h1, hz]; omega
    rw [if_neg hnn]
    have : y % 32 = nI (N % 32) := Int32.toInt_inj.mp (by rw [hmod, h1, hnI])
    rw [this]
  · rw [if_neg c] at hy
    have h1 : y.toInt.tmod 32 = -((-y.toInt) % 32) := by
      have := Int.neg_tmod (-y.toInt) 32
      rw [Int.neg_neg] at this
      rw [this, Int.tmod_eq_emod_of_nonneg (by omega)]
    by_cases d : y % 32 < 0
    · rw [if_pos d]
      have hd := Int32.lt_iff_toInt_lt.mp d
      rw [hmod, h1, hz] at hd
      have : y % 32 + 32 = nI (N % 32) := by
        apply Int32.toInt_inj.mp
        rw [Int32.toInt_add, hmod, h1, h32, hnI, Int.bmod_eq_of_le (by omega) (by omega)]
        omega
      rw [this]
    · rw [if_neg d]
      have hd : ¬ (y % 32).toInt < 0 := fun z => d (Int32.lt_iff_toInt_lt.mpr (by rw [hz]; exact z))
      rw [hmod, h1] at hd
      have : y % 32 = nI (N % 32) := Int32.toInt_inj.mp (by rw [hmod, h1, hnI]; omega)
      rw [this]
def RW (σ : Mem) (s : Wl) : Prop := σ 362 36 = nI s.1 ∧ σ 362 37 = nI s.2.1 ∧ ∀ i, i < s.2.1 → σ 384 i = nI (s.2.2 i)
theorem keeps_ok {σ : Mem} {c : Nat} {rt : Nat → Nat} {x : Nat} (hc : c ≤ 4) (h4 : σ 362 37 = nI c) (hr : ∀ i, i < c → σ 384 i = nI (rt i)) :
    ∃ σ', fX11_keeps σ (nI x) = some ((), σ') ∧ (∀ q, q ≠ 362 → q ≠ 384 → σ' q = σ q) ∧ (∀ j, j ≠ 37 → σ' 362 j = σ 362 j) ∧ σ' 362 37 = nI (keepW c rt x).1 ∧ ∀ i, i < (keepW c rt x).1 → σ' 384 i = nI ((keepW c rt x).2 i) := by
  unfold fX11_keeps
  simp only [lt_e]
  have fin : ∀ (m : Mem) (d : Nat) (rt' : Nat → Nat), d < 4 → m 362 37 = nI d → (∀ i, i < d → m 384 i = nI (rt' i)) → (∀ q, q ≠ 362 → q ≠ 384 → m q = σ q) → (∀ j, j ≠ 37 → m 362 j = σ 362 j) →
      ∃ σ', ck (inb (m 362 37) 4) (some ((), sto (sto m 384 (ix (m 362 37)) (nI x)) 362 37 (sto m 384 (ix (m 362 37)) (nI x) 362 37 + 1))) = some ((), σ') ∧ (∀ q, q ≠ 362 → q ≠ 384 → σ' q = σ q) ∧ (∀ j, j ≠ 37 → σ' 362 j = σ 362 j) ∧ σ' 362 37 = nI (d + 1) ∧ ∀ i, i < d + 1 → σ' 384 i = nI (if i = d then x else rt' i) := by
    intro m d rt' hd e1 e2 e3 e4
    rw [e1, ck_t (inb_nI hd (by decide)), ix_nI (by omega), sto_ne (show (362 : Nat) ≠ 384 by decide), e1, nI_1]
    refine ⟨_, rfl, fun q a b => by rw [sto_ne a, sto_ne b]; exact e3 q a b, fun j hj => by rw [sto_nj hj, sto_ne (by decide)]; exact e4 j hj, sto_eq, fun i hi => ?_⟩
    rw [sto_ne (by decide)]
    by_cases z : i = d
    · subst z; rw [sto_eq, if_pos rfl]
    · rw [sto_nj z, if_neg z]; exact e2 i (by omega)
  rw [h4]
  by_cases e : c = 4
  · subst e
    have k1 : keepW 4 rt x = (4, fun i => if i = 3 then x else rt (i + 1)) := by unfold keepW; rw [if_pos rfl]
    rw [if_pos (show nI 4 = 4 from rfl), k1]
    refine loopM (fX11_keeps_L10 _ (nI x)) (fX11_keeps_L10_b _ (nI x)) (fun _ _ _ => rfl) 3
      (fun k m => (∀ q, q ≠ 384 → m q = σ q) ∧ (∀ i, i < 4 → m 384 i = if i < k then nI (rt (i + 1)) else nI (rt i)))
      (fun r => ∃ σ', r = some ((), σ') ∧ (∀ q, q ≠ 362 → q ≠ 384 → σ' q = σ q) ∧ (∀ j, j ≠ 37 → σ' 362 j = σ 362 j) ∧ σ' 362 37 = nI 4 ∧ ∀ i, i < 4 → σ' 384 i = nI (if i = 3 then x else rt (i + 1))) ?_ ?_ 5000 0 σ (by omega) (by omega) ⟨fun _ _ => rfl, fun i hi => by rw [if_neg (by omega)]; exact hr i hi⟩
    · rintro m rec ⟨h1, h2⟩
      unfold fX11_keeps_L10_b
      rw [if_neg (by decide)]
      have hm37 : m 362 37 = nI 4 := by rw [h1 362 (by decide)]; exact h4
      exact fin (sto m 362 37 (m 362 37 - 1)) 3 (fun i => rt (i + 1)) (by decide) (by rw [sto_eq, hm37]; rfl) (fun i hi => by rw [sto_ne (by decide), h2 i (by omega), if_pos hi]) (fun q a b => by rw [sto_ne a]; exact h1 q b) (fun j hj => by rw [sto_nj hj, h1 362 (by decide)])
    · rintro k m rec hk ⟨h1, h2⟩
      right
      unfold fX11_keeps_L10_b
      rw [if_pos (show nI k < 3 from nI_lt (b := 3) hk (by decide)), nI_1, ck_t (inb_nI (show k + 1 < 4 by omega) (by decide)), ck_t (inb_nI (show k < 4 by omega) (by decide)), lt_e, ix_nI (by omega), ix_nI (by omega)]
      refine ⟨_, ⟨fun q hq => by rw [sto_ne hq]; exact h1 q hq, fun i hi => ?_⟩, rfl⟩
      by_cases z : i = k
      · subst z
        rw [sto_eq, h2 (i + 1) (by omega), if_neg (by omega), if_pos (by omega)]
      · rw [sto_nj z, h2 i hi]
        have : (i < k + 1) ↔ (i < k) := by omega
        simp only [this]
  · have k1 : keepW c rt x = (c + 1, fun i => if i = c then x else rt i) := by unfold keepW; rw [if_neg e]
    rw [if_neg (show ¬ nI c = 4 from fun z => e ((nI_eq (b := 4) (by omega) (by decide)).mp z)), k1, ← h4]
    exact fin σ c rt (by omega) h4 hr (fun _ _ _ => rfl) (fun _ _ => rfl)
theorem steps_ok {σ : Mem} {A : Ab} (h : RInv σ A) {s : Wl} (hw : RW σ s) (ho : Wok s) :
    ∃ σ', RInv σ' A ∧ Lo σ σ' ∧ ((stepP A.F A.n A.d.cel s = none ∧ fX11_steps σ = some (0, σ') ∧ RW σ' s) ∨
      (∃ s', stepP A.F A.n A.d.cel s = some s' ∧ fX11_steps σ = some (1, σ') ∧ RW σ' s')) := by
  have hn := h.forms.2.1
  obtain ⟨o1, o2, o3⟩ := ho
  have hcel := h.now.2.1 s.1 o1
  obtain ⟨s1, b1, b2, b3, b4⟩ := meant_ok h.forms h.lk hcel
  have hI := h.same b2 b3 b4
  have hmm := mnN_lt (F := A.F) hn (nI (A.d.cel s.1))
  have hw1 : RW s1 s := ⟨by rw [b2.2 36 (by decide)]; exact hw.1, by rw [b2.2 37 (by decide)]; exact hw.2.1, fun i hi => by rw [b2.1 384 (by decide) (by decide) (by decide) (by decide)]; exact hw.2.2 i hi⟩
  have hc := h.now.1.2.1 s.1 o1
  rw [Nat.zero_add] at hc
  unfold fX11_steps stepP
  rw [hw.1, e8, ck_t (inb_nI (show 8 + s.1 < 73 by omega) (by decide)), ix_nI (by omega), lt_e, hc, b1, cl_s, mnR_mnr]
  by_cases e : mnN A.F A.n (nI (A.d.cel s.1)) < A.n
  case neg =>
    refine ⟨s1, hI, b2.lo, Or.inl ⟨by rw [if_neg e], by rw [if_pos ((mnr_neg _ hmm.1).mpr (by omega))], hw1⟩⟩
  have hf := hI.forms.2.2 _ e
  have hk := hf.2.1
  have hin := inb_nI (show mnN A.F A.n (nI (A.d.cel s.1)) < 12 by omega) (show 12 < 2 ^ 31 by decide)
  have e5 : (nI (fkd (A.F (mnN A.F A.n (nI (A.d.cel s.1))))) = (5 : Int32)) ↔ fkd (A.F (mnN A.F A.n (nI (A.d.cel s.1)))) = 5 := kdeq (c := 5) hk (by decide)
  have e1 : (nI (fkd (A.F (mnN A.F A.n (nI (A.d.cel s.1))))) = (1 : Int32)) ↔ fkd (A.F (mnN A.F A.n (nI (A.d.cel s.1)))) = 1 := kdeq (c := 1) hk (by decide)
  have e3 : (nI (fkd (A.F (mnN A.F A.n (nI (A.d.cel s.1))))) = (3 : Int32)) ↔ fkd (A.F (mnN A.F A.n (nI (A.d.cel s.1)))) = 3 := kdeq (c := 3) hk (by decide)
  have e6 : (nI (fkd (A.F (mnN A.F A.n (nI (A.d.cel s.1))))) = (6 : Int32)) ↔ fkd (A.F (mnN A.F A.n (nI (A.d.cel s.1)))) = 6 := kdeq (c := 6) hk (by decide)
  obtain ⟨s2, c1, c2, c3⟩ := firstOf_ok hI hcel e
  have hw2 : RW s2 s := ⟨by rw [c3.2 36 (by decide)]; exact hw1.1, by rw [c3.2 37 (by decide)]; exact hw1.2.1, fun i hi => by rw [c3.1 384 (by decide) (by decide) (by decide) (by decide)]; exact hw1.2.2 i hi⟩
  have hf2 := (c2.forms.2.2 _ e).1
  have h40 : (nI s.2.1 = (0 : Int32)) ↔ s.2.1 = 0 := nI_eq (b := 0) (by omega) (by decide)
  rw [if_pos e, if_neg (fun z => absurd ((mnr_neg _ hmm.1).mp z) (by omega)), mnr_f _ (by omega), ck_t hin, ix_nI (by omega), c1, cl_s, ck_t hin, hf.1.2.1, hf2.2.1, hw1.2.1]
  simp only [lt_e, round_ok, cl_s, hw2.1, (tgt_nI s.1 1).1, e1, e3, e5, e6, h40]
  have hlo2 : Lo σ s2 := fun q hq => (c3.lo q hq).trans (b2.lo q hq)
  generalize hg : mnN A.F A.n (nI (A.d.cel s.1)) = m at *
  by_cases z : fkd (A.F m) = 5 ∧ s.2.1 = 0
  · rw [if_pos z, if_pos z.1, if_pos z.2]
    exact ⟨s1, hI, b2.lo, Or.inl ⟨rfl, rfl, hw1⟩⟩
  rw [if_neg z]
  -- how a memory behind a step is made
  have mk : ∀ (t : Mem) (v : Nat) (c : Nat) (rt : Nat → Nat), (∀ q, q ≠ 362 → q ≠ 384 → t q = s2 q) → (∀ j, j ≠ 37 → t 362 j = s2 362 j) → t 362 37 = nI c → (∀ i, i < c → t 384 i = nI (rt i)) → RInv (sto t 362 36 (nI v)) A ∧ Lo σ (sto t 362 36 (nI v)) ∧ RW (sto t 362 36 (nI v)) (v, c, rt) := by
    intro t v c rt p1 p2 p3 p4
    refine ⟨c2.congr (fun q a b => by rw [sto_ne (by omega), p1 q (by omega) (by omega)]) (fun j hj => by rw [sto_nj (by omega), p2 j (by omega)]), fun q hq => by rw [sto_ne (by omega), p1 q (by omega) (by omega)]; exact hlo2 q hq, sto_eq, by rw [sto_nj (by decide)]; exact p3, fun i hi => by rw [sto_ne (by decide)]; exact p4 i hi⟩
  obtain ⟨s3, k1, k2, k3, k4, k5⟩ := keeps_ok (x := tgt s.1 1) o2 hw2.2.1 hw2.2.2
  have tf := tgt_nI s.1 (firstP (A.F m) (nI (A.d.cel s.1)))
  have hcase : fkd (A.F m) = 0 ∨ fkd (A.F m) = 1 ∨ fkd (A.F m) = 2 ∨ fkd (A.F m) = 3 ∨ fkd (A.F m) = 4 ∨ fkd (A.F m) = 5 ∨ fkd (A.F m) = 6 := by omega
  have plain : RInv (sto s2 362 36 (nI (tgt s.1 1))) A ∧ Lo σ (sto s2 362 36 (nI (tgt s.1 1))) ∧ RW (sto s2 362 36 (nI (tgt s.1 1))) (tgt s.1 1, s.2.1, s.2.2) := mk s2 _ _ _ (fun _ _ _ => rfl) (fun _ _ => rfl) hw2.2.1 hw2.2.2
  have kept := mk s3 (tgt s.1 (firstP (A.F m) (nI (A.d.cel s.1)))) _ _ k2 k3 k4 k5
  have h336 : s3 362 36 = nI s.1 := by rw [k3 36 (by decide)]; exact hw2.1
  rcases hcase with k | k | k | k | k | k | k
  · refine ⟨_, plain.1, plain.2.1, Or.inr ⟨_, rfl, ?_, ?_⟩⟩
    · simp only [k]; rfl
    · have : goW (A.F m) (nI (A.d.cel s.1)) s = (tgt s.1 1, s.2.1, s.2.2) := by unfold goW; simp only [k]; rfl
      rw [this]; exact plain.2.2
  · have j := mk s2 (tgt s.1 (firstP (A.F m) (nI (A.d.cel s.1)))) _ _ (fun _ _ _ => rfl) (fun _ _ => rfl) hw2.2.1 hw2.2.2
    refine ⟨_, j.1, j.2.1, Or.inr ⟨_, rfl, ?_, ?_⟩⟩
    · simp only [k, hw2.1, tf.1]; rfl
    · have : goW (A.F m) (nI (A.d.cel s.1)) s = (tgt s.1 (firstP (A.F m) (nI (A.d.cel s.1))), s.2.1, s.2.2) := by unfold goW; simp only [k]; rfl
      rw [this]; exact j.2.2
  · refine ⟨_, plain.1, plain.2.1, Or.inr ⟨_, rfl, ?_, ?_⟩⟩
    · simp only [k]; rfl
    · have : goW (A.F m) (nI (A.d.cel s.1)) s = (tgt s.1 1, s.2.1, s.2.2) := by unfold goW; simp only [k]; rfl
      rw [this]; exact plain.2.2
  · refine ⟨_, kept.1, kept.2.1, Or.inr ⟨_, rfl, ?_, ?_⟩⟩
    · simp only [k, k1, cl_s, h336, tf.1]; rfl
    · have : goW (A.F m) (nI (A.d.cel s.1)) s = (tgt s.1 (firstP (A.F m) (nI (A.d.cel s.1))), keepW s.2.1 s.2.2 (tgt s.1 1)) := by unfold goW; simp only [k]; rfl
      rw [this]; exact kept.2.2
  · refine ⟨_, plain.1, plain.2.1, Or.inr ⟨_, rfl, ?_, ?_⟩⟩
    · simp only [k]; rfl
    · have : goW (A.F m) (nI (A.d.cel s.1)) s = (tgt s.1 1, s.2.1, s.2.2) := by unfold goW; simp only [k]; rfl
      rw [this]; exact plain.2.2
  · have hpos : ¬ s.2.1 = 0 := fun x => z ⟨k, x⟩
    obtain ⟨c, hc1⟩ : ∃ c, s.2.1 = c + 1 := ⟨s.2.1 - 1, by omega⟩
    have j := mk (sto s2 362 37 (nI c)) (s.2.2 c) c s.2.2 (fun q a _ => sto_ne a) (fun j hj => sto_nj hj) sto_eq (fun i hi => by rw [sto_ne (by decide)]; exact hw2.2.2 i (by omega))
    refine ⟨_, j.1, j.2.1, Or.inr ⟨_, rfl, ?_, ?_⟩⟩
    · rw [if_pos k, if_neg hpos, if_pos k, hw2.2.1, hc1, m1_nI, sto_eq, ck_t (inb_nI (show c < 4 by omega) (by decide)), ix_nI (by omega), sto_ne (show (384 : Nat) ≠ 362 by decide), hw2.2.2 c (by omega)]
    · have : goW (A.F m) (nI (A.d.cel s.1)) s = (s.2.2 c, c, s.2.2) := by unfold goW; simp only [k, hc1]; rfl
      rw [this]; exact j.2.2
  · by_cases y : firstP (A.F m) (nI (A.d.cel s.1)) % 2 = 0
    · refine ⟨_, kept.1, kept.2.1, Or.inr ⟨_, rfl, ?_, ?_⟩⟩
      · simp only [k, y, k1, cl_s, h336, tf.1]; rfl
      · have : goW (A.F m) (nI (A.d.cel s.1)) s = (tgt s.1 (firstP (A.F m) (nI (A.d.cel s.1))), keepW s.2.1 s.2.2 (tgt s.1 1)) := by unfold goW; simp only [k, y]; rfl
        rw [this]; exact kept.2.2
    · refine ⟨_, plain.1, plain.2.1, Or.inr ⟨_, rfl, ?_, ?_⟩⟩
      · simp only [k, y]; rfl
      · have : goW (A.F m) (nI (A.d.cel s.1)) s = (tgt s.1 1, s.2.1, s.2.2) := by unfold goW; simp only [k, y]; rfl
        rw [this]; exact plain.2.2
