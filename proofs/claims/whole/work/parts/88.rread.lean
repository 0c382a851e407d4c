/-! ===== read: the reference ===== -/
theorem wrongAt_ok {σ : Mem} (h : σ 362 30 = -1) (v : Int32) : fX11_wrongAt σ v = some ((), sto σ 362 30 v) := by
  unfold fX11_wrongAt
  simp only [lt_e]
  rw [h, if_pos (by decide)]
abbrev Fr (σ σ' : Mem) : Prop := (∀ q, q ≠ 362 → σ' q = σ q) ∧ ∀ j, j ≠ 27 → j ≠ 30 → σ' 362 j = σ 362 j
theorem readsField_ok {σ : Mem} {t : Tp} (h : RTp σ t) (ht : Tok t) {i : Nat} {f : Fm} (hf : RForm σ i f) (hF : Fok f) {l : Nat} (hl : l < 8) (hc : 0 < cnt (fl f l) 12) {p : Nat} (hp : p < 1000) (w : Int32) (h27 : σ 362 27 = nI p) (h30 : σ 362 30 = -1) :
    ∃ σ', Fr σ σ' ∧ ((∃ e v, nbP f l t p w = .inl e ∧ fX11_readsField σ (nI i) (nI l) = some (v, σ') ∧ σ' 362 30 = nI e) ∨ (nbP f l t p w = .inr (p + nbB t p + nbK t p, laP (fl f l) w (nbV t p)) ∧ fX11_readsField σ (nI i) (nI l) = some (nbV t p, σ') ∧ σ' 362 30 = -1 ∧ σ' 362 27 = nI (p + nbB t p + nbK t p))) := by
  have hb := nbB_le t p
  have hkk := nbK_le t p
  have hi := hf.1.1
  have h45 := bA_eq ht (c := 45) (by decide) p
  rw [show nI 45 = (45 : Int32) from rfl] at h45
  unfold fX11_readsField
  simp only [lt_e]
  rw [h27, rat_ok h ht (by omega), cl_s]
  have core : ∀ (m : Mem) (v4 : Int32), Fr σ m → m 362 27 = nI (p + nbB t p) → m 362 30 = -1 → (v4 = 0 ↔ ¬ isC t 45 p = true) → ∀ kk : Mem → Int32 → Option (Int32 × Mem), (∀ (m17 : Mem) (x18 : Int32), kk m17 x18 = (if (m17 362 27) = nI (p + nbB t p) then cl (fX11_wrongAt m17 (m17 362 27)) (fun _ m20 => if v4 = (0 : Int32) then some (x18, m20) else some ((-x18), m20)) else if v4 = (0 : Int32) then (cl (fX11_canStand m17 (nI i) (nI l) x18) fun r23 m22 => if r23 = (0 : Int32) then cl (fX11_wrongAt m22 (nI p)) (fun _ m24 => if v4 = (0 : Int32) then some (x18, m24) else some ((-x18), m24)) else if v4 = (0 : Int32) then some (x18, m22) else some ((-x18), m22)) else (cl (fX11_canStand m17 (nI i) (nI l) (-x18)) fun r23 m22 => if r23 = (0 : Int32) then cl (fX11_wrongAt m22 (nI p)) (fun _ m24 => if v4 = (0 : Int32) then some (x18, m24) else some ((-x18), m24)) else if v4 = (0 : Int32) then some (x18, m22) else some ((-x18), m22)))) →
      ∃ σ', Fr σ σ' ∧ ((∃ e v, nbP f l t p w = .inl e ∧ fX11_readsField_L53 kk (nI i) (nI l) (nI p) v4 (nI (p + nbB t p)) 5000 m 0 = some (v, σ') ∧ σ' 362 30 = nI e) ∨ (nbP f l t p w = .inr (p + nbB t p + nbK t p, laP (fl f l) w (nbV t p)) ∧ fX11_readsField_L53 kk (nI i) (nI l) (nI p) v4 (nI (p + nbB t p)) 5000 m 0 = some (nbV t p, σ') ∧ σ' 362 30 = -1 ∧ σ' 362 27 = nI (p + nbB t p + nbK t p))) := by
    intro m v4 g1 g2 g3 g4 kk hkd
    have hm : RTp m t := by unfold RTp; rw [g1.2 28 (by decide) (by decide), g1.1 373 (by decide)]; exact h
    obtain ⟨m1, c1, c2, c3, c4⟩ := rdigs hm ht (p := p + nbB t p) (by omega) (nI i) (nI l) (nI p) v4 g2 kk
    rw [show spn (isBt t 48 57) (p + nbB t p) 3 = nbK t p from rfl] at c1 c2
    have f1 : Fr σ m1 := ⟨fun q hq => by rw [c4 q hq]; exact g1.1 q hq, fun j a b => by rw [c3 j a]; exact g1.2 j a b⟩
    have g30 : m1 362 30 = -1 := by rw [c3 30 (by decide)]; exact g3
    have hv : (if v4 = (0 : Int32) then nI (dvl t (p + nbB t p) (nbK t p)) else -nI (dvl t (p + nbB t p) (nbK t p))) = nbV t p := by
      unfold nbV
      by_cases z : v4 = 0
      · rw [if_pos z, if_neg (g4.mp z)]
      · have hcc : isC t 45 p = true := by
          cases hq : isC t 45 p with
          | true => rfl
          | false => exact absurd (g4.mpr (by rw [hq]; decide)) z
        rw [if_neg z, if_pos hcc]
    rw [c1, hkd, c2]
    by_cases hK : nbK t p = 0
    · rw [if_pos (by rw [hK]; rfl), wrongAt_ok g30, cl_s]
      refine ⟨sto m1 362 30 (nI (p + nbB t p + nbK t p)), ⟨fun q hq => by rw [sto_ne hq]; exact f1.1 q hq, fun j a b => by rw [sto_nj b]; exact f1.2 j a b⟩, Or.inl ⟨p + nbB t p, if v4 = (0 : Int32) then nI (dvl t (p + nbB t p) (nbK t p)) else -nI (dvl t (p + nbB t p) (nbK t p)), by unfold nbP; rw [if_pos hK], ?_, by rw [sto_eq, hK]; rfl⟩⟩
      split <;> rfl
    rw [if_neg (fun z => hK (by have := (nI_eq (by omega) (by omega)).mp z; omega))]
    have hf1 : RForm m1 i f := hf.congr (fun q a b => f1.1 q (by omega))
    have fin : ∀ v, v = nbV t p → ∃ σ', Fr σ σ' ∧ ((∃ e u, nbP f l t p w = .inl e ∧ (cl (fX11_canStand m1 (nI i) (nI l) v) fun r23 m22 => if r23 = (0 : Int32) then cl (fX11_wrongAt m22 (nI p)) (fun _ m24 => if v4 = (0 : Int32) then some (nI (dvl t (p + nbB t p) (nbK t p)), m24) else some ((-nI (dvl t (p + nbB t p) (nbK t p))), m24)) else if v4 = (0 : Int32) then some (nI (dvl t (p + nbB t p) (nbK t p)), m22) else some ((-nI (dvl t (p + nbB t p) (nbK t p))), m22)) = some (u, σ') ∧ σ' 362 30 = nI e) ∨ (nbP f l t p w = .inr (p + nbB t p + nbK t p, laP (fl f l) w (nbV t p)) ∧ (cl (fX11_canStand m1 (nI i) (nI l) v) fun r23 m22 => if r23 = (0 : Int32) then cl (fX11_wrongAt m22 (nI p)) (fun _ m24 => if v4 = (0 : Int32) then some (nI (dvl t (p + nbB t p) (nbK t p)), m24) else some ((-nI (dvl t (p + nbB t p) (nbK t p))), m24)) else if v4 = (0 : Int32) then some (nI (dvl t (p + nbB t p) (nbK t p)), m22) else some ((-nI (dvl t (p + nbB t p) (nbK t p))), m22)) = some (nbV t p, σ') ∧ σ' 362 30 = -1 ∧ σ' 362 27 = nI (p + nbB t p + nbK t p))) := by
      rintro v rfl
      rw [canStand_ok hf1.1 hl hc (hF.2.2.1 l hl), cl_s]
      by_cases y : canP (cnt (fl f l) 12) (decide (3 < l)) (nbV t p) = true
      · rw [if_pos (show canP (cnt (fp (fpt f) l) 12) (decide (3 < l)) (nbV t p) = true from y), if_neg (by decide)]
        refine ⟨m1, f1, Or.inr ⟨by unfold nbP; rw [if_neg hK, if_pos y], ?_, g30, c2⟩⟩
        rw [← hv]
        split <;> rfl
      · rw [if_neg (show ¬ canP (cnt (fp (fpt f) l) 12) (decide (3 < l)) (nbV t p) = true from y), if_pos rfl, wrongAt_ok g30, cl_s]
        refine ⟨sto m1 362 30 (nI p), ⟨fun q hq => by rw [sto_ne hq]; exact f1.1 q hq, fun j a b => by rw [sto_nj b]; exact f1.2 j a b⟩, Or.inl ⟨p, nbV t p, by unfold nbP; rw [if_neg hK, if_neg y], ?_, sto_eq⟩⟩
        rw [← hv]
        split <;> rfl
    by_cases z : v4 = 0
    · have := fin (nI (dvl t (p + nbB t p) (nbK t p))) (by rw [← hv, if_pos z])
      rw [if_pos z]
      exact this
    · have := fin (-nI (dvl t (p + nbB t p) (nbK t p))) (by rw [← hv, if_neg z])
      rw [if_neg z]
      exact this
  by_cases c : isC t 45 p = true
  · have hB : nbB t p = 1 := by unfold nbB; rw [if_pos c]
    rw [if_pos (h45.mpr c), if_neg (by decide), sto_eq, h27, nI_1]
    have := core (sto σ 362 27 (nI (p + 1))) 1 ⟨fun q hq => sto_ne hq, fun j a b => sto_nj a⟩ (by rw [sto_eq, hB]) (by rw [sto_nj (by decide)]; exact h30) (by simp [c])
    rw [hB] at this ⊢
    exact this _ (fun _ _ => rfl)
  · have hB : nbB t p = 0 := by unfold nbB; rw [if_neg c]
    have e0 : nI p + 0 = nI p := Int32.add_zero _
    rw [if_neg (fun y => c (h45.mp y)), if_pos trivial, sto_eq, h27, e0]
    have := core (sto σ 362 27 (nI p)) 0 ⟨fun q hq => sto_ne hq, fun j a b => sto_nj a⟩ (by rw [sto_eq, hB, Nat.add_zero]) (by rw [sto_nj (by decide)]; exact h30) (by simp [c])
    rw [hB, Nat.add_zero] at this ⊢
    exact this _ (fun _ _ => by simp)
theorem rnumbers {σ : Mem} {B : Ab} (h : RInv σ B) {t : Tp} (hT : RTp σ t) (ht : Tok t) {i : Nat} (hi : i < B.n) {p : Nat} (hp : p ≤ 200) (h27 : σ 362 27 = nI p) (h30 : σ 362 30 = -1) (kk : Mem → Int32 → Option (Int32 × Mem)) :
    ∃ σ' x, fX11_read_L137 kk (nI i) 5000 σ (valP (B.F i)) 0 = kk σ' x ∧ RInv σ' B ∧ RTp σ' t ∧ Lo σ σ' ∧ ((∃ e, e < 1000 ∧ nbsP (B.F i) t (lts (B.F i)).length 0 p (valP (B.F i)) = .inl e ∧ σ' 362 30 = nI e) ∨ (∃ y, y.1 < 1000 ∧ isW y.2 ∧ nbsP (B.F i) t (lts (B.F i)).length 0 p (valP (B.F i)) = .inr y ∧ σ' 362 30 = -1 ∧ σ' 362 27 = nI y.1 ∧ x = y.2)) := by
  have hlen := lts_len8 (B.F i)
  have hn := h.forms.2.1
  have hT1 := ht.1
  have hfok := (h.forms.2.2 i hi).2
  refine loopA (fX11_read_L137 kk (nI i)) (fX11_read_L137_b kk (nI i)) (fun _ _ _ _ => rfl) (lts (B.F i)).length
    (fun k m x => RInv m B ∧ RTp m t ∧ Lo σ m ∧ ((∃ e, e < 1000 ∧ nbsP (B.F i) t (lts (B.F i)).length 0 p (valP (B.F i)) = .inl e ∧ m 362 30 = nI e) ∨ (∃ p' w', p' ≤ 205 ∧ isW w' ∧ m 362 30 = -1 ∧ m 362 27 = nI p' ∧ x = w' ∧ nbsP (B.F i) t (lts (B.F i)).length 0 p (valP (B.F i)) = nbsP (B.F i) t ((lts (B.F i)).length - k) k p' w')))
    (fun r => ∃ σ' x, r = kk σ' x ∧ RInv σ' B ∧ RTp σ' t ∧ Lo σ σ' ∧ ((∃ e, e < 1000 ∧ nbsP (B.F i) t (lts (B.F i)).length 0 p (valP (B.F i)) = .inl e ∧ σ' 362 30 = nI e) ∨ (∃ y, y.1 < 1000 ∧ isW y.2 ∧ nbsP (B.F i) t (lts (B.F i)).length 0 p (valP (B.F i)) = .inr y ∧ σ' 362 30 = -1 ∧ σ' 362 27 = nI y.1 ∧ x = y.2))) ?_ ?_ 5000 0 σ _ (by omega) (by omega) ⟨h, hT, fun _ _ => rfl, Or.inr ⟨p, valP (B.F i), by omega, isW_mkS _, h30, h27, rfl, rfl⟩⟩
  · rintro m x rec ⟨g1, g2, g3, g4⟩
    unfold fX11_read_L137_b
    rw [fieldsOf_ok (g1.forms.2.2 i hi).1, cl_s, if_neg (nI_nlt (Nat.le_refl _) (by omega))]
    refine ⟨m, x, rfl, g1, g2, g3, ?_⟩
    rcases g4 with ⟨e, a1, a2, a3⟩ | ⟨p', w', a1, a2, a3, a4, a5, a6⟩
    · exact Or.inl ⟨e, a1, a2, a3⟩
    · rw [Nat.sub_self, nbsP] at a6
      exact Or.inr ⟨(p', w'), by show p' < 1000; omega, a2, a6, a3, a4, a5⟩
  · rintro k m x rec hk ⟨g1, g2, g3, g4⟩
    unfold fX11_read_L137_b
    have hf := (g1.forms.2.2 i hi).1
    rw [fieldsOf_ok hf, cl_s, if_pos (nI_lt hk (by omega))]
    rcases g4 with ⟨e, a1, a2, a3⟩ | ⟨p', w', a1, a2, a3, a4, rfl, a6⟩
    · left
      rw [a3, if_neg (nI_pos (by omega))]
      exact ⟨m, x, rfl, g1, g2, g3, Or.inl ⟨e, a1, a2, a3⟩⟩
    · right
      have hmem := lts_mem.mp (List.getElem_mem hk)
      have hgd : (lts (B.F i)).getD k 0 = (lts (B.F i))[k] := by simp [hk]
      have hg : (lts (B.F i))[k]? = some (lts (B.F i))[k] := by simp
      have h32 := bA_eq ht (c := 32) (by decide) p'
      rw [show nI 32 = (32 : Int32) from rfl] at h32
      have hst : nbsP (B.F i) t ((lts (B.F i)).length - k) k p' x = if isC t 32 p' = true then (match nbP (B.F i) ((lts (B.F i)).getD k 0) t (p' + 1) x with | .inl e => .inl e | .inr y => nbsP (B.F i) t ((lts (B.F i)).length - (k + 1)) (k + 1) y.1 y.2) else .inl p' := by
        obtain ⟨j, j1, j2⟩ : ∃ j, (lts (B.F i)).length - k = j + 1 ∧ (lts (B.F i)).length - (k + 1) = j := ⟨(lts (B.F i)).length - k - 1, by omega, by omega⟩
        rw [j1, j2, nbsP]
        rfl
      rw [hst, hgd] at a6
      rw [a3, if_pos (by decide), a4, rat_ok g2 ht (by omega), cl_s]
      simp only [lt_e]
      by_cases c : isC t 32 p' = true
      · have hp' : p' < 200 := by unfold isC at c; simp only [Bool.and_eq_true, decide_eq_true_eq] at c; omega
        rw [if_pos c] at a6
        rw [if_pos (h32.mpr c), nI_1, a4, nI_1]
        have hs : Fr m (sto m 362 27 (nI (p' + 1))) := ⟨fun q hq => sto_ne hq, fun j a b => sto_nj a⟩
        have hI1 : RInv (sto m 362 27 (nI (p' + 1))) B := g1.congr (fun q a b => hs.1 q (by omega)) (fun j hj => hs.2 j (by omega) (by omega))
        have hf1 := (hI1.forms.2.2 i hi).1
        have hT1' : RTp (sto m 362 27 (nI (p' + 1))) t := by unfold RTp; rw [hs.2 28 (by decide) (by decide), hs.1 373 (by decide)]; exact g2
        obtain ⟨m1, c1, c2⟩ := readsField_ok hT1' ht hf1 hfok hmem.1 hmem.2 (p := p' + 1) (by omega) x sto_eq (by rw [sto_nj (by decide)]; exact a3)
        rw [fieldAt_ok hf1 (by omega), cl_s, hg, show ansO (some (lts (B.F i))[k]) = nI (lts (B.F i))[k] from rfl]
        have hFr : Fr m m1 := ⟨fun q hq => by rw [c1.1 q hq]; exact hs.1 q hq, fun j a b => by rw [c1.2 j a b]; exact hs.2 j a b⟩
        have hI2 : RInv m1 B := g1.congr (fun q a b => hFr.1 q (by omega)) (fun j hj => hFr.2 j (by omega) (by omega))
        have hT2 : RTp m1 t := by unfold RTp; rw [hFr.2 28 (by decide) (by decide), hFr.1 373 (by decide)]; exact g2
        have hlo : Lo σ m1 := fun q hq => by rw [hFr.1 q (by omega)]; exact g3 q hq
        rcases c2 with ⟨e', v, f1, f2, f3⟩ | ⟨f1, f2, f3, f4⟩
        · rw [f1] at a6
          have hle := nbP_l f1
          rw [f2, cl_s, f3, if_neg (nI_pos (by omega))]
          exact ⟨m1, x, ⟨hI2, hT2, hlo, Or.inl ⟨e', by omega, a6, f3⟩⟩, rfl⟩
        · rw [f1] at a6
          have hle := nbP_r f1
          have hf2 := (hI2.forms.2.2 i hi).1
          rw [f2, cl_s, f3, if_pos (by decide), fieldAt_ok hf2 (by omega), cl_s, hg, show ansO (some (lts (B.F i))[k]) = nI (lts (B.F i))[k] from rfl, laidIn_ok hf2.1 hmem.1 _ _ a2, cl_s]
          exact ⟨m1, _, ⟨hI2, hT2, hlo, Or.inr ⟨_, _, by have := hle.1; have h9 : p' + 1 + nbB t (p' + 1) + nbK t (p' + 1) ≤ p' + 1 + 4 := this; omega, hle.2, f3, f4, rfl, a6⟩⟩, rfl⟩
      · rw [if_neg c] at a6
        rw [if_neg (fun y => c (h32.mp y)), wrongAt_ok a3, cl_s, nI_1, a4]
        refine ⟨sto m 362 30 (nI p'), x, ⟨g1.congr (fun q a b => sto_ne (by omega)) (fun j hj => sto_nj (by omega)), ?_, fun q hq => by rw [sto_ne (by omega)]; exact g3 q hq, Or.inl ⟨p', by omega, a6, sto_eq⟩⟩, rfl⟩
        unfold RTp
        rw [sto_nj (by decide), sto_ne (by decide)]; exact g2
def rdE (v9 : Int32) (m18 : Mem) (x19 : Int32) : Option (Int32 × Mem) :=
  lt (fun (m20 : Mem) =>
    lt (fun (m21 : Mem) =>
      if (m21 362 30) < (0 : Int32) then
        some (x19, m21)
      else
        some (((-10 : Int32) - (m21 362 30)), m21)) <| fun j284 =>
    if (m20 362 30) < (0 : Int32) then
      cl (fX11_meant m20 x19) <| fun r23 m22 =>
      if r23 = v9 then
        j284 m22
      else
        cl (fX11_wrongAt m22 ((m22 362 28) + (1 : Int32))) <| fun _ m24 =>
        j284 m24
    else
      j284 m20) <| fun j258 =>
  if (m18 362 30) < (0 : Int32) then
    if (m18 362 27) < (m18 362 28) then
      cl (fX11_wrongAt m18 (m18 362 27)) <| fun _ m25 =>
      j258 m25
    else
      j258 m18
  else
    j258 m18
def rdJ (m8 : Mem) (v9 : Int32) : Option (Int32 × Mem) :=
  if v9 < (0 : Int32) then
    some (((-10 : Int32) - (m8 362 27)), m8)
  else
    cl (fX11_valueOf m8 v9) <| fun r11 m10 =>
    fX11_read_L137 (rdE v9) v9 5000 m10 r11 (0 : Int32)
def rdK (m7 : Mem) : Option (Int32 × Mem) :=
  lt (α := Option (Int32 × Mem)) (
    rdJ m7 (-1 : Int32)) <| fun j66 =>
  if (m7 362 27) < (1 : Int32) then
    j66
  else
    if (3 : Int32) < (m7 362 27) then
      j66
    else
      ck (inb (0 : Int32) 200) <|
      lt (fun (v44 : Int32) =>
        lt (fun (v45 : Int32) =>
          cl (fX11_formNamed m7 (m7 373 (ix (0 : Int32))) v44 v45) <| fun r47 m46 =>
          rdJ m46 r47) <| fun j113 =>
        if (2 : Int32) < (m7 362 27) then
          ck (inb (2 : Int32) 200) <|
          j113 (m7 373 (ix (2 : Int32)))
        else
          j113 (0 : Int32)) <| fun j95 =>
      if (1 : Int32) < (m7 362 27) then
        ck (inb (1 : Int32) 200) <|
        j95 (m7 373 (ix (1 : Int32)))
      else
        j95 (0 : Int32)
theorem rdE_l {σ : Mem} {e : Nat} (he : e < 1000) (h30 : σ 362 30 = nI e) (v9 x : Int32) : rdE v9 σ x = some (-10 - nI e, σ) := by
  unfold rdE
  simp only [lt_e]
  rw [h30, if_neg (nI_pos (by omega)), if_neg (nI_pos (by omega)), if_neg (nI_pos (by omega))]
theorem rdE_r {σ : Mem} {B : Ab} (h : RInv σ B) {t : Tp} (hT : RTp σ t) (ht : Tok t) {i : Nat} (hi : i < B.n) {y : Nat × Int32} (hy : y.1 < 1000) (hw : isW y.2) (h30 : σ 362 30 = -1) (h27 : σ 362 27 = nI y.1) :
    ∃ σ', rdE (nI i) σ y.2 = some (if y.1 < t.1 then -10 - nI y.1 else if mnN B.F B.n y.2 = i then y.2 else -10 - nI (t.1 + 1), σ') ∧ RInv σ' B ∧ Lo σ σ' := by
  have hn := h.forms.2.1
  have hT1 := ht.1
  unfold rdE
  simp only [lt_e]
  rw [h30, if_pos (by decide), h27, hT.1]
  by_cases c : y.1 < t.1
  · rw [if_pos (nI_lt c (by omega)), wrongAt_ok h30, cl_s, sto_eq, if_neg (nI_pos (by omega)), if_neg (nI_pos (by omega)), if_pos c]
    exact ⟨_, rfl, h.congr (fun q a b => sto_ne (by omega)) (fun j hj => sto_nj (by omega)), fun q hq => sto_ne (by omega)⟩
  rw [if_neg (nI_nlt (by omega) (by omega)), if_neg c, if_pos (by decide)]
  obtain ⟨v, hv, ev⟩ := isW_of hw
  rw [ev]
  obtain ⟨s, b1, b2, b3, b4⟩ := meant_ok h.forms h.lk hv
  have hs := h.same b2 b3 b4
  have hm := (mnN_lt (F := B.F) hn (nI v)).1
  have s30 : s 362 30 = -1 := by rw [b2.2 30 (by decide)]; exact h30
  rw [b1, cl_s, mnR_mnr]
  by_cases z : mnN B.F B.n (nI v) = i
  · rw [if_pos (by rw [z, mnr_f i (by omega)]), s30, if_pos (by decide), if_pos z]
    exact ⟨s, rfl, hs, b2.lo⟩
  · rw [if_neg (fun x => z ((mnr_inj _ hm i (by omega)).mp (by rw [x, mnr_f i (by omega)]))), wrongAt_ok s30, cl_s, sto_eq, b2.2 28 (by decide), hT.1, nI_1, if_neg (nI_pos (by omega)), if_neg z]
    exact ⟨_, rfl, hs.congr (fun q a b => sto_ne (by omega)) (fun j hj => sto_nj (by omega)), fun q hq => by rw [sto_ne (by omega)]; exact b2.lo q hq⟩
theorem rdJ_ok {σ : Mem} {A : Ab} (h : RInv σ (setT A 0 A.tp)) {t : Tp} (hT : RTp σ t) (ht : Tok t) (h27 : σ 362 27 = nI (lnK t)) (h30 : σ 362 30 = -1) :
    ∃ σ', rdJ σ (ansO (rdF A t)) = some (readP A t, σ') ∧ RInv σ' (setT A 0 A.tp) ∧ Lo σ σ' := by
  have hn := h.forms.2.1
  have hlk : lnK t ≤ 200 := spn_le _ _ _
  unfold rdJ readP
  cases hr : rdF A t with
  | none =>
    rw [if_pos (show ansO none < 0 by decide), h27]
    exact ⟨σ, rfl, h, fun _ _ => rfl⟩
  | some i =>
    have hi : i < (setT A 0 A.tp).n := rdF_lt hr
    have hi2 : i < A.n := hi
    have hn2 : A.n ≤ 12 := hn
    have hal : ansO (some i) = nI i := rfl
    have hf := h.forms.2.2 i hi
    unfold fX11_valueOf
    rw [hal, if_neg (nI_pos (by omega)), ck_t (inb_nI (show i < 12 by omega) (by decide)), cl_s, ix_nI (by omega), hf.1.2.2.2.1.2]
    obtain ⟨s, x, b1, b2, b3, b4, b5⟩ := rnumbers h hT ht hi hlk h27 h30 (rdE (nI i))
    rw [b1]
    rcases b5 with ⟨e, e0, e1, e2⟩ | ⟨y, e0, e1, e2, e3, e4, rfl⟩
    · rw [rdE_l e0 e2]
      have e1' : nbsP (A.F i) t (lts (A.F i)).length 0 (lnK t) (valP (A.F i)) = .inl e := e1
      simp only [e1']
      exact ⟨s, rfl, b2, b4⟩
    · have e2' : nbsP (A.F i) t (lts (A.F i)).length 0 (lnK t) (valP (A.F i)) = .inr y := e2
      obtain ⟨s2, c1, c2, c3⟩ := rdE_r b2 b3 ht hi e0 e1 e3 e4
      simp only [e2']
      exact ⟨s2, c1, c2, fun q hq => (c3 q hq).trans (b4 q hq)⟩
theorem rdK_ok {σ : Mem} {A : Ab} (h : RInv σ (setT A 0 A.tp)) (ha : AOk A) {t : Tp} (hT : RTp σ t) (ht : Tok t) (h27 : σ 362 27 = nI (lnK t)) (h30 : σ 362 30 = -1) :
    ∃ σ', rdK σ = some (readP A t, σ') ∧ RInv σ' (setT A 0 A.tp) ∧ Lo σ σ' := by
  have hJ := rdJ_ok h hT ht h27 h30
  have hlk : lnK t ≤ 200 := spn_le _ _ _
  have haB : AOk (setT A 0 A.tp) := ha
  unfold rdK
  simp only [lt_e]
  rw [h27]
  by_cases c0 : lnK t < 1
  · have : rdF A t = none := by unfold rdF; rw [if_neg (by omega)]
    rw [this] at hJ
    rw [if_pos (show nI (lnK t) < 1 from nI_lt (b := 1) c0 (by decide))]
    exact hJ
  rw [if_neg (show ¬ nI (lnK t) < 1 from nI_nlt (b := 1) (by omega) (by omega))]
  by_cases c3 : 3 < lnK t
  · have : rdF A t = none := by unfold rdF; rw [if_neg (by omega)]
    rw [this] at hJ
    rw [if_pos (show 3 < nI (lnK t) from nI_lt (a := 3) c3 (by omega))]
    exact hJ
  rw [if_neg (show ¬ 3 < nI (lnK t) from nI_nlt (a := 3) (by omega) (by omega)), ck_t (by decide)]
  have l0 := lnK_all (t := t) (j := 0) (by omega)
  have hrd : rdF A t = fndF (fun i => nmIs (A.F i) (t.2 0) (if 1 < lnK t then t.2 1 else 0) (if 2 < lnK t then t.2 2 else 0)) 0 A.n := by unfold rdF; rw [if_pos (by omega)]
  have x0 : σ 373 (ix 0) = nI (t.2 0) := hT.2 0 l0.2
  have l0' := l0.1
  unfold Ltr at l0'
  have key : ∀ (v1 v2 : Int32) (y z : Nat), y < 256 → z < 256 → v1 = nI y → v2 = nI z → y = (if 1 < lnK t then t.2 1 else 0) → z = (if 2 < lnK t then t.2 2 else 0) → ∃ σ', (cl (fX11_formNamed σ (σ 373 (ix 0)) v1 v2) fun r47 m46 => rdJ m46 r47) = some (readP A t, σ') ∧ RInv σ' (setT A 0 A.tp) ∧ Lo σ σ' := by
    rintro v1 v2 y z hy hz rfl rfl ey ez
    rw [x0, formNamed_ok h haB (by omega) hy hz, cl_s]
    have : fndF (fun i => nmIs ((setT A 0 A.tp).F i) (t.2 0) y z) 0 (setT A 0 A.tp).n = rdF A t := by rw [hrd, ey, ez]; rfl
    rw [this]; exact hJ
  by_cases c1 : 1 < lnK t
  · have l1 := lnK_all (t := t) (j := 1) (by omega)
    have l1' := l1.1
    unfold Ltr at l1'
    rw [if_pos (show 1 < nI (lnK t) from nI_lt (a := 1) c1 (by omega)), ck_t (by decide)]
    have x1 : σ 373 (ix 1) = nI (t.2 1) := hT.2 1 l1.2
    by_cases c2 : 2 < lnK t
    · have l2 := lnK_all (t := t) (j := 2) (by omega)
      have l2' := l2.1
      unfold Ltr at l2'
      have x2 : σ 373 (ix 2) = nI (t.2 2) := hT.2 2 l2.2
      rw [if_pos (show 2 < nI (lnK t) from nI_lt (a := 2) c2 (by omega)), ck_t (by decide)]
      exact key _ _ (t.2 1) (t.2 2) (by omega) (by omega) x1 x2 (by rw [if_pos c1]) (by rw [if_pos c2])
    · rw [if_neg (show ¬ 2 < nI (lnK t) from nI_nlt (a := 2) (by omega) (by omega))]
      exact key _ _ (t.2 1) 0 (by omega) (by omega) x1 rfl (by rw [if_pos c1]) (by rw [if_neg c2])
  · rw [if_neg (show ¬ 1 < nI (lnK t) from nI_nlt (a := 1) (by omega) (by omega)), if_neg (show ¬ 2 < nI (lnK t) from nI_nlt (a := 2) (by omega) (by omega))]
    exact key _ _ 0 0 (by omega) (by omega) rfl rfl (by rw [if_neg c1]) (by rw [if_neg (by omega)])
theorem rs_read : RSa fX11_read gRead := by
  intro σ A h ha
  unfold fX11_read gRead
  have hn := h.forms.2.1
  have ht : Tok (A.tc, A.tp) := ⟨h.tape.2.1, fun i hi => (h.tape.2.2 i hi).2⟩
  have hT1 : A.tc ≤ 200 := h.tape.2.1
  have hlk : lnK (A.tc, A.tp) ≤ 200 := spn_le _ _ _
  rw [lt_e, lt_e, lt_e, lt_e, h.tape.1]
  generalize hm4 : sto (sto (sto (sto σ 362 28 (nI A.tc)) 362 13 0) 362 27 0) 362 30 (-1) = m4
  have q4 : ∀ q, q ≠ 362 → m4 q = σ q := fun q hq => by rw [← hm4, sto_ne hq, sto_ne hq, sto_ne hq, sto_ne hq]
  have j4 : ∀ j, j ≠ 13 → j ≠ 27 → j ≠ 28 → j ≠ 30 → m4 362 j = σ 362 j := fun j a b c d => by rw [← hm4, sto_nj d, sto_nj b, sto_nj a, sto_nj c]
  have hI4 : RInv m4 (setT A 0 A.tp) := h.setT (fun q a b c => q4 q (by omega)) (fun j a b => j4 j b (by omega) (by omega) (by omega)) ⟨by rw [← hm4, sto_nj (by decide), sto_nj (by decide), sto_eq]; rfl, Nat.zero_le _, fun i hi => absurd hi (Nat.not_lt_zero i)⟩
  have hT4 : RTp m4 (A.tc, A.tp) := ⟨by rw [← hm4, sto_nj (by decide), sto_nj (by decide), sto_nj (by decide), sto_eq], fun i hi => by rw [q4 373 (by decide)]; exact (h.tape.2.2 i hi).1⟩
  have h27 : m4 362 27 = nI 0 := by rw [← hm4, sto_nj (by decide), sto_eq]; rfl
  have h30 : m4 362 30 = -1 := by rw [← hm4, sto_eq]
  have hlo4 : Lo σ m4 := fun q hq => q4 q (by omega)
  have haB : AOk (setT A 0 A.tp) := ha
  have fin : ∀ m, Fr m4 m → m 362 27 = nI (lnK (A.tc, A.tp)) → m 362 30 = -1 → ∃ σ', rdK m = some (readP A (A.tc, A.tp), σ') ∧ RInv σ' (setT A 0 A.tp) ∧ ∀ k, k < 362 → σ' k = σ k := by
    intro m g1 g2 g3
    obtain ⟨s, c1, c2, c3⟩ := rdK_ok (hI4.congr (fun q a b => g1.1 q (by omega)) (fun j hj => g1.2 j (by omega) (by omega))) ha (t := (A.tc, A.tp)) (by unfold RTp; rw [g1.2 28 (by decide) (by decide), g1.1 373 (by decide)]; exact hT4) ht g2 g3
    exact ⟨s, c1, c2, fun q hq => by rw [c3 q hq, g1.1 q (by omega)]; exact hlo4 q hq⟩
  show ∃ σ', fX11_read_L23 rdK 5000 m4 = _ ∧ _
  refine loop0 (fX11_read_L23 rdK) (fX11_read_L23_b rdK) (fun _ _ => rfl) 200
    (fun k m => Fr m4 m ∧ m 362 27 = nI k ∧ m 362 30 = -1 ∧ lnK (A.tc, A.tp) = k + spn (isBt (A.tc, A.tp) 97 122) k (200 - k))
    (fun r => ∃ σ', r = some (readP A (A.tc, A.tp), σ') ∧ RInv σ' (setT A 0 A.tp) ∧ ∀ k, k < 362 → σ' k = σ k) ?_ ?_ 5000 0 m4 (by omega) (by omega) ⟨⟨fun _ _ => rfl, fun _ _ _ => rfl⟩, h27, h30, by unfold lnK; rw [Nat.zero_add]⟩
  · rintro m rec ⟨g1, g2, g3, e⟩
    unfold fX11_read_L23_b
    have e' : lnK (A.tc, A.tp) = 200 := e
    have hm : RTp m (A.tc, A.tp) := by unfold RTp; rw [g1.2 28 (by decide) (by decide), g1.1 373 (by decide)]; exact hT4
    have hz : ¬ isBt (A.tc, A.tp) 97 122 200 = true := by
      unfold isBt
      have : ¬ 200 < A.tc := by omega
      simp [this]
    rw [g2, rat_ok hm ht (by decide), cl_s, rin ht, cl_s, if_neg hz, if_pos rfl]
    exact fin m g1 (by rw [g2, e']) g3
  · rintro k m rec hk ⟨g1, g2, g3, e⟩
    unfold fX11_read_L23_b
    have hm : RTp m (A.tc, A.tp) := by unfold RTp; rw [g1.2 28 (by decide) (by decide), g1.1 373 (by decide)]; exact hT4
    rw [spn_s (q := isBt (A.tc, A.tp) 97 122) (i := k) hk] at e
    rw [g2, rat_ok hm ht (by omega), cl_s, rin ht, cl_s]
    by_cases z : isBt (A.tc, A.tp) 97 122 k = true
    · right
      rw [if_pos z] at e
      rw [if_pos z, if_neg (by decide), lt_e, g2, nI_1]
      exact ⟨_, ⟨⟨fun q hq => by rw [sto_ne hq]; exact g1.1 q hq, fun j a b => by rw [sto_nj a]; exact g1.2 j a b⟩, sto_eq, by rw [sto_nj (by decide)]; exact g3, by omega⟩, rfl⟩
    · left
      rw [if_neg z] at e
      have e' : lnK (A.tc, A.tp) = k := by omega
      rw [if_neg z, if_pos rfl]
      exact fin m g1 (by rw [g2, e']) g3
