/-! ===== least trees: the class chooses ===== -/
theorem bN_cnt {T : Int32} (hw : isW T) : cnt (bt T) 32 = bN T := by
  unfold bN
  rw [dsc_len]
  have h : ∀ d, cnt (bt T) (12 + d) = cnt (bt T) 12 := by
    intro d
    induction d with
    | zero => rfl
    | succ d ih => rw [show 12 + (d + 1) = 12 + d + 1 from rfl, cnt, ih, hw (12 + d) (by omega)]; simp
  exact h 20
theorem okS {F : Nat → Fm} {n : Nat} {T : Int32} {s i : Nat} (hi : i < bN T) : okB F n (cnd F n T s) (unt T s) (plN T i) = (!bt (tsT T s) (plN T i) && usf F n (cnd F n T s) (plN T i)) := by
  have hp := plN_m hi
  unfold okB unt
  rw [bt_and, bt_not, hp.2]
  have : plN T i < 32 := by omega
  simp [this]
theorem tsT_dig {T : Int32} {s i : Nat} (hi : i < bN T) (h : bt (tsT T s) (plN T i) = false) : dig s i = 0 := by
  have hp := (plN_m hi).1
  unfold tsT at h
  rw [bt_mkS _ (by decide)] at h
  simp only [hp, decide_true, Bool.true_and] at h
  rw [List.any_eq_false] at h
  have := h i (List.mem_range.mpr hi)
  simp at this
  exact this
theorem lvS {F : Nat → Fm} {n : Nat} (hn : n ≤ 12) {T : Int32} (hB : bN T ≤ 6) {s i : Nat} (hs : s < 729) (hi : i < bN T) (hd : dig s i = 0) : lvF F n (cnd F n T s) (unt T s) (plN T i) = 1 + lsS F n T (s + 3 ^ i) + lsS F n T (s + 2 * 3 ^ i) := by
  have hd1 : ∀ j, j < bN T → dig (s + 3 ^ i) j = if j = i then 1 else dig s j := fun j hj => (dig_12 i (by omega) s (by omega) hd j (by omega)).1
  have hd2 : ∀ j, j < bN T → dig (s + 2 * 3 ^ i) j = if j = i then 2 else dig s j := fun j hj => (dig_12 i (by omega) s (by omega) hd j (by omega)).2
  unfold lvF lsS
  rw [cnd_1 hn hB hs hi hd, cnd_2 hn hB hs hi hd, unt_up (by decide) hi hd hd1, unt_up (by decide) hi hd hd2]
/-- what was chosen among the first i places -/
def Chs (F : Nat → Fm) (n : Nat) (T : Int32) (s i : Nat) (fi be : Int32) : Prop :=
  (fi = -1 ∧ be = 0 ∧ ∀ j, j < i → okB F n (cnd F n T s) (unt T s) (plN T j) = false) ∨
  (∃ c, c < 12 ∧ fi = nI c ∧ be = nI (lvF F n (cnd F n T s) (unt T s) c) ∧ okB F n (cnd F n T s) (unt T s) c = true ∧ (∀ x, i ≤ x → x < bN T → plN T x < c) ∧ ∀ j, j < i → okB F n (cnd F n T s) (unt T s) (plN T j) = true → lvF F n (cnd F n T s) (unt T s) c ≤ lvF F n (cnd F n T s) (unt T s) (plN T j) ∧ (c < plN T j → lvF F n (cnd F n T s) (unt T s) c < lvF F n (cnd F n T s) (unt T s) (plN T j)))
theorem Chs.done {F : Nat → Fm} {n : Nat} {T : Int32} (hT : cnt (bt T) 32 ≤ 6) {s : Nat} {fi be : Int32} (h : Chs F n T s (bN T) fi be) : be = nI (lsS F n T s) ∧ fi = ansO (fstB F n (cnd F n T s) (unt T s)) := by
  have hrec := lsF_rec (F := F) (n := n) (S := cnd F n T s) (unt_cnt hT s)
  have hof : ∀ b, b < 12 → okB F n (cnd F n T s) (unt T s) b = true → ∃ j, j < bN T ∧ plN T j = b := by
    intro b hb hok
    unfold okB unt at hok
    simp only [Bool.and_eq_true, bt_and] at hok
    exact plN_of hb hok.1.1
  rcases h with ⟨h1, h2, h3⟩ | ⟨c, h1, h2, h3, h4, _, h5⟩
  · have hno : ∀ b, b < 12 → okB F n (cnd F n T s) (unt T s) b = false := by
      intro b hb
      cases hq : okB F n (cnd F n T s) (unt T s) b with
      | false => rfl
      | true =>
        obtain ⟨j, hj, e⟩ := hof b hb hq
        have := h3 j hj
        rw [e, hq] at this; cases this
    rw [mnF_none.mpr hno] at hrec
    refine ⟨?_, ?_⟩
    · rw [h2]; unfold lsS; rw [hrec]; rfl
    · unfold fstB
      rw [srch_none (fun b hb => by rw [hno b hb]; rfl), h1]; rfl
  · have hle : ∀ b, b < 12 → okB F n (cnd F n T s) (unt T s) b = true → lvF F n (cnd F n T s) (unt T s) c ≤ lvF F n (cnd F n T s) (unt T s) b ∧ (c < b → lvF F n (cnd F n T s) (unt T s) c < lvF F n (cnd F n T s) (unt T s) b) := by
      intro b hb hok
      obtain ⟨j, hj, e⟩ := hof b hb hok
      have := h5 j hj (by rw [e]; exact hok)
      rw [e] at this; exact this
    have hls : lsF F n (cnd F n T s) (unt T s) = lvF F n (cnd F n T s) (unt T s) c := by
      rw [hrec]
      cases hm : mnF (okB F n (cnd F n T s) (unt T s)) (lvF F n (cnd F n T s) (unt T s)) 12 with
      | none =>
        have := mnF_none.mp hm c h1
        rw [h4] at this; cases this
      | some x =>
        obtain ⟨⟨j, j1, j2, j3⟩, g⟩ := mnF_some hm
        have a1 := g c h1 h4
        have a2 := (hle j j1 j2).1
        simp only [Option.getD_some]
        omega
    refine ⟨by rw [h3]; unfold lsS; rw [hls], ?_⟩
    unfold fstB
    rw [srch_some (c := c) (by simp [h4, hls]) h1 (fun b hb1 hb2 => ?_), h2]
    · rfl
    · cases hq : okB F n (cnd F n T s) (unt T s) b with
      | false => rfl
      | true =>
        have := (hle b hb2 hq).2 hb1
        rw [hls]
        have hne : ¬ lvF F n (cnd F n T s) (unt T s) b = lvF F n (cnd F n T s) (unt T s) c := by omega
        simp [hne]
theorem choose_ok {σ : Mem} {n : Nat} {F : Nat → Fm} (hn : n ≤ 12) {T : Int32} (hT : cnt (bt T) 32 ≤ 6) (hB : bN T ≤ 6) {s : Nat} (hs : s < 3 ^ bN T) (hC : CT σ F n) (hP : CPl σ T) (hS : CSt σ F n T (3 ^ bN T)) (hL : ∀ r, s < r → r < 3 ^ bN T → σ 293 r = nI (lsS F n T r)) :
    ∃ σ', fX8_chooseLeast σ (nI s) (nI (bN T)) = some ((), σ') ∧ σ' 293 s = nI (lsS F n T s) ∧ σ' 287 6 = ansO (fstB F n (cnd F n T s) (unt T s)) ∧ (∀ r, r ≠ s → σ' 293 r = σ 293 r) ∧ (∀ q, q ≠ 287 → q ≠ 293 → σ' q = σ q) := by
  have h729 := pw3_le (bN T) (by omega)
  have iS := inb_nI (show s < 729 by omega) (show 729 < 2 ^ 31 by decide)
  unfold fX8_chooseLeast
  rw [lt_e]
  have hcS : isS n (cnd F n T s) := cnd_isS F hn T s
  have q0 : ∀ q, q ≠ 287 → sto σ 287 6 (-1) q = σ q := fun q hq => sto_ne hq
  refine loopA (fX8_chooseLeast_L10 (fun (m9 : Mem) (x10 : Int32) => ck (inb (nI s) 729) <| lt (sto m9 293 (ix (nI s)) x10) <| fun m11 => some ((), m11)) (nI s) (nI (bN T))) (fX8_chooseLeast_L10_b (fun (m9 : Mem) (x10 : Int32) => ck (inb (nI s) 729) <| lt (sto m9 293 (ix (nI s)) x10) <| fun m11 => some ((), m11)) (nI s) (nI (bN T))) (fun _ _ _ _ => rfl) (bN T)
    (fun i m x => (∀ q, q ≠ 287 → m q = σ q) ∧ Chs F n T s i (m 287 6) x)
    (fun r => ∃ σ', r = some ((), σ') ∧ σ' 293 s = nI (lsS F n T s) ∧ σ' 287 6 = ansO (fstB F n (cnd F n T s) (unt T s)) ∧ (∀ r, r ≠ s → σ' 293 r = σ 293 r) ∧ (∀ q, q ≠ 287 → q ≠ 293 → σ' q = σ q)) ?_ ?_ 5000 0 _ 0 (by omega) (by omega) ⟨q0, Or.inl ⟨sto_eq, rfl, fun j hj => by omega⟩⟩
  · rintro m x rec ⟨g1, g2⟩
    unfold fX8_chooseLeast_L10_b
    rw [if_neg (nI_nlt (Nat.le_refl _) (by omega))]
    have hd := g2.done hT
    refine ⟨_, by show ck (inb (nI s) 729) _ = _; rw [ck_t iS, lt_e], ?_, ?_, fun r hr => ?_, fun q a b => ?_⟩
    · rw [ix_nI (by omega), sto_eq]; exact hd.1
    · rw [sto_ne (by decide)]; exact hd.2
    · rw [ix_nI (by omega), sto_nj hr, g1 293 (by decide)]
    · rw [sto_ne b]; exact g1 q a
  · rintro i m x rec hi ⟨g1, g2⟩
    right
    unfold fX8_chooseLeast_L10_b
    have hp := plN_m hi
    have hC1 : CT m F n := fun c hc => by rw [g1 288 (by decide), g1 289 (by decide)]; exact hC c hc
    rw [if_pos (nI_lt hi (by omega)), ck_t (inb_nI (show i < 6 by omega) (by decide)), lt_e, ix_nI (show i < 2 ^ 31 by omega), g1 290 (by decide), hP i hi, ck_t iS, lt_e, ix_nI (show s < 2 ^ 31 by omega), g1 292 (by decide), (hS s hs).2, shr1 (by omega), ck_t iS, g1 291 (by decide), (hS s hs).1, cuse_ok hn hC1 hcS hp.1, cl_s, nI_1]
    have hok := okS (F := F) (n := n) (T := T) (s := s) hi
    -- a place that is passed over
    have skip : okB F n (cnd F n T s) (unt T s) (plN T i) = false → ∃ m' t', ((∀ q, q ≠ 287 → m' q = σ q) ∧ Chs F n T s (i + 1) (m' 287 6) t') ∧ rec m x (nI (i + 1)) = rec m' t' (nI (i + 1)) := by
      intro hf
      refine ⟨m, x, ⟨g1, ?_⟩, rfl⟩
      rcases g2 with ⟨a1, a2, a3⟩ | ⟨c, a1, a2, a3, a4, a5, a6⟩
      · refine Or.inl ⟨a1, a2, fun j hj => ?_⟩
        by_cases e : j = i
        · subst e; exact hf
        · exact a3 j (by omega)
      · refine Or.inr ⟨c, a1, a2, a3, a4, fun y y1 y2 => a5 y (by omega) y2, fun j hj hj2 => ?_⟩
        by_cases e : j = i
        · subst e; rw [hf] at hj2; cases hj2
        · exact a6 j (by omega) hj2
    by_cases c1 : bt (tsT T s) (plN T i) = true
    · rw [if_pos c1, if_pos rfl]
      exact skip (by rw [hok, c1]; rfl)
    · have c1' : bt (tsT T s) (plN T i) = false := by simpa using c1
      rw [if_neg c1, if_neg (by decide)]
      by_cases c2 : usf F n (cnd F n T s) (plN T i) = true
      case neg =>
        rw [if_neg c2, if_pos rfl]
        exact skip (by rw [hok, c1']; simpa using c2)
      have hd := tsT_dig hi c1'
      have hbd := dig_bd (bN T) (by omega) i hi s hs hd
      have hp3 : 0 < 3 ^ i := Nat.pow_pos (by decide)
      have hokt : okB F n (cnd F n T s) (unt T s) (plN T i) = true := by rw [hok, c1', c2]; rfl
      have hlv := lvS (F := F) hn hB (show s < 729 by omega) hi hd
      have hlt := lvF_lt F n (cnd F n T s) (unt T s) (plN T i)
      rw [if_pos c2, if_neg (by decide), ck_t (inb_nI (show i < 7 by omega) (by decide)), pw3 i (by omega), lt_e, nI_add, show (2 : Int32) * nI (3 ^ i) = nI (2 * 3 ^ i) by rw [show (2 : Int32) = nI 2 from rfl, pk_mul], nI_add, ck_t (inb_nI (show s + 3 ^ i < 729 by omega) (by decide)), ck_t (inb_nI (show s + 2 * 3 ^ i < 729 by omega) (by decide)), ix_nI (by omega), ix_nI (by omega), g1 293 (by decide), hL _ (by omega) (by omega), hL _ (by omega) hbd, show (1 : Int32) + nI (lsS F n T (s + 3 ^ i)) = nI (1 + lsS F n T (s + 3 ^ i)) from nI_add 1 _, nI_add, ← hlv, lt_e, lt_e, lt_e]
      have take : (∀ j, j < i → okB F n (cnd F n T s) (unt T s) (plN T j) = true → lvF F n (cnd F n T s) (unt T s) (plN T i) < lvF F n (cnd F n T s) (unt T s) (plN T j)) → ∃ m' t', ((∀ q, q ≠ 287 → m' q = σ q) ∧ Chs F n T s (i + 1) (m' 287 6) t') ∧ rec (sto m 287 6 (nI (plN T i))) (nI (lvF F n (cnd F n T s) (unt T s) (plN T i))) (nI (i + 1)) = rec m' t' (nI (i + 1)) := by
        intro hb
        refine ⟨_, _, ⟨fun q hq => by rw [sto_ne hq]; exact g1 q hq, Or.inr ⟨plN T i, hp.1, sto_eq, rfl, hokt, fun y y1 y2 => plN_desc (by omega) y2, fun j hj hj2 => ?_⟩⟩, rfl⟩
        by_cases e : j = i
        · subst e; exact ⟨Nat.le_refl _, fun z => by omega⟩
        · have := hb j (by omega) hj2
          exact ⟨by omega, fun _ => this⟩
      rcases g2 with ⟨a1, a2, a3⟩ | ⟨c, a1, a2, a3, a4, a5, a6⟩
      · rw [a1, if_pos rfl]
        exact take (fun j hj hj2 => by rw [a3 j hj] at hj2; cases hj2)
      · have hlc := lvF_lt F n (cnd F n T s) (unt T s) c
        rw [a2, if_neg (fun z => absurd (nI_pos' (show c < 2 ^ 31 by omega)) (by rw [z]; decide)), a3]
        by_cases z : lvF F n (cnd F n T s) (unt T s) (plN T i) < lvF F n (cnd F n T s) (unt T s) c
        · rw [if_pos (nI_lt z (by omega))]
          exact take (fun j hj hj2 => by have := (a6 j hj hj2).1; omega)
        · rw [if_neg (nI_nlt (by omega) (by omega))]
          refine ⟨m, _, ⟨g1, Or.inr ⟨c, a1, a2, rfl, a4, fun y y1 y2 => a5 y (by omega) y2, fun j hj hj2 => ?_⟩⟩, rfl⟩
          by_cases e : j = i
          · subst e
            have := a5 j (Nat.le_refl _) hi
            exact ⟨by omega, fun y => by omega⟩
          · exact a6 j (by omega) hj2
theorem cs_least (a b : Int32) : CS (fun σ => fX10_least σ a b) (gLeast a b) := by
  intro σ A h
  show ∃ σ', fX10_least σ a b = _ ∧ _
  unfold fX10_least gLeast
  rw [cts_ok, cl_s, lt_e]
  by_cases c1 : isTs a
  case neg => rw [if_neg c1, if_pos rfl, if_neg (fun z => c1 z.1)]; exact cbad h
  rw [if_pos c1, if_neg (by decide), within_ok, cl_s]
  by_cases c2 : 0 ≤ b ∧ b ≤ 1
  case neg => rw [if_neg c2, if_pos rfl, if_neg (fun z => c2 z.2)]; exact cbad h
  rw [if_pos c2, if_neg (by decide), if_pos (show isTs a ∧ (0 ≤ b ∧ b ≤ 1) from ⟨c1, c2⟩)]
  have hn := h.mean.1.2.1
  have hw : isW a := by
    obtain ⟨w, hw, rfl⟩ := word_of c1.1
    exact isW_nI hw
  have hT := c1.2
  have hB : bN a ≤ 6 := by rw [← bN_cnt hw]; exact hT
  have h729 := pw3_le (bN a) (by omega)
  have hpos : 0 < 3 ^ bN a := Nat.pow_pos (by decide)
  have key : ∃ m', fX8_growLeast σ a = some ((), m') ∧ m' 287 3 = nI (lsF A.F A.n (allS A.n) a) ∧ m' 287 6 = ansO (fstB A.F A.n (allS A.n) a) ∧ ∀ q, q < 287 ∨ 294 ≤ q → m' q = σ q := by
    unfold fX8_growLeast
    obtain ⟨m1, a1, a2, a3⟩ := look_ok h.mean.1
    rw [a1, cl_s]
    obtain ⟨m2, b1, b2, b3⟩ := places_ok (σ := m1) hB (fun (m8 : Mem) (x9 : Int32) =>
      cl (fX8_fillStates m8 x9) <| fun _ m10 =>
      ck (inb x9 7) <|
      lt ((sV 2 (ix x9)) - (1 : Int32)) <| fun x11 =>
      fX8_growLeast_L57
        (fun (m16 : Mem) =>
          ck (inb (0 : Int32) 729) <|
          lt (sto m16 287 3 (m16 293 (ix (0 : Int32)))) <| fun m17 =>
          some ((), m17))
        x9 5000 m10 x11)
    rw [b1]
    have hC2 : CT m2 A.F A.n := fun c hc => by rw [b3 288 (by decide), b3 289 (by decide)]; exact a2 c hc
    have h9 : m2 9 1 = nI A.n := by rw [b3 9 (by decide), a3 9 (by decide) (by decide)]; exact h.mean.1.1
    obtain ⟨m3, d1, d2, d3⟩ := fill_st hn hB h9 hC2 b2
    rw [d1, cl_s, ck_t (inb_nI (show bN a < 7 by omega) (by decide)), lt_e, ix_nI (by omega), pw3 _ (by omega)]
    have q3 : ∀ q, q < 287 ∨ 294 ≤ q → m3 q = σ q := fun q hq => by rw [d3 q (by omega) (by omega), b3 q (by omega), a3 q (by omega) (by omega)]
    refine loopMc (fun k => nI (3 ^ bN a - k) - 1) (fX8_growLeast_L57 (fun (m16 : Mem) => ck (inb (0 : Int32) 729) <| lt (sto m16 287 3 (m16 293 (ix (0 : Int32)))) <| fun m17 => some ((), m17)) (nI (bN a))) (fX8_growLeast_L57_b (fun (m16 : Mem) => ck (inb (0 : Int32) 729) <| lt (sto m16 287 3 (m16 293 (ix (0 : Int32)))) <| fun m17 => some ((), m17)) (nI (bN a))) (fun _ _ _ => rfl) (3 ^ bN a)
      (fun k m => (∀ q, q ≠ 287 → q ≠ 293 → m q = m3 q) ∧ (∀ r, 3 ^ bN a - k ≤ r → r < 3 ^ bN a → m 293 r = nI (lsS A.F A.n a r)) ∧ (3 ^ bN a ≤ k → m 287 6 = ansO (fstB A.F A.n (cnd A.F A.n a 0) (unt a 0))))
      (fun r => ∃ m', r = some ((), m') ∧ m' 287 3 = nI (lsF A.F A.n (allS A.n) a) ∧ m' 287 6 = ansO (fstB A.F A.n (allS A.n) a) ∧ ∀ q, q < 287 ∨ 294 ≤ q → m' q = σ q) ?_ ?_ 5000 0 m3 (by omega) (by omega) ⟨fun _ _ _ => rfl, fun r h1 h2 => by omega, fun z => by omega⟩
    · rintro m rec ⟨g1, g2, g3⟩
      unfold fX8_growLeast_L57_b
      rw [Nat.sub_self, if_pos (by decide)]
      show ∃ m', ck (inb (0 : Int32) 729) _ = _ ∧ _
      rw [ck_t (by decide), lt_e, show ix (0 : Int32) = 0 from rfl]
      have e0 := g2 0 (by omega) hpos
      have e6 := g3 (Nat.le_refl _)
      unfold lsS at e0
      rw [cnd_0 A.F hn, unt_0] at e0 e6
      exact ⟨_, rfl, by rw [sto_eq, e0], by rw [sto_nj (by decide), e6], fun q hq => by rw [sto_ne (by omega), g1 q (by omega) (by omega)]; exact q3 q hq⟩
    · rintro k m rec hk ⟨g1, g2, g3⟩
      right
      unfold fX8_growLeast_L57_b
      obtain ⟨s, hs, hs2⟩ : ∃ s, 3 ^ bN a - k = s + 1 ∧ 3 ^ bN a - (k + 1) = s := ⟨3 ^ bN a - k - 1, by omega, by omega⟩
      show ∃ m', _ ∧ (if nI (3 ^ bN a - k) - 1 < 0 then _ else _) = rec m' (nI (3 ^ bN a - (k + 1)) - 1)
      rw [hs, hs2, m1_nI, if_neg (nI_pos (by omega))]
      have hC3 : CT m A.F A.n := fun c hc => by rw [g1 288 (by decide) (by decide), g1 289 (by decide) (by decide), d3 288 (by decide) (by decide), d3 289 (by decide) (by decide)]; exact hC2 c hc
      have hP3 : CPl m a := fun j hj => by rw [g1 290 (by decide) (by decide), d3 290 (by decide) (by decide)]; exact b2 j hj
      have hS3 : CSt m A.F A.n a (3 ^ bN a) := fun r hr => by rw [g1 291 (by decide) (by decide), g1 292 (by decide) (by decide)]; exact d2 r hr
      obtain ⟨m4, e1, e2, e3, e4, e5⟩ := choose_ok hn hT hB (show s < 3 ^ bN a by omega) hC3 hP3 hS3 (fun r r1 r2 => g2 r (by omega) r2)
      rw [e1, cl_s]
      refine ⟨m4, ⟨fun q x y => by rw [e5 q x y]; exact g1 q x y, fun r r1 r2 => ?_, fun z => ?_⟩, ?_⟩
      · by_cases y : r = s
        · subst y; exact e2
        · rw [e4 r y]; exact g2 r (by omega) r2
      · have : s = 0 := by omega
        subst this; exact e3
      · rw [← Int32.sub_eq_add_neg]
  obtain ⟨m, k1, k2, k3, k4⟩ := key
  rw [k1, cl_s, k2, k3]
  refine ⟨m, ?_, h.congr (fun q x y => k4 q (by omega)), fun q hq => k4 q (by omega)⟩
  by_cases d0 : b = 0
  · rw [if_pos d0, if_pos d0]
  · rw [if_neg d0, if_neg d0]
