/-! ===== looks: one array more, for the time of the call ===== -/
def ext (X : Xt) (a : Nat) : Xt := (fun k => if k = 385 then a else xad X k, xD X, xac X, xsa X, 386, xB X)
theorem rs_lt0 : ∀ k, k < 385 → ∀ j, j < 40 → (rsk (kd k) k j).all (fun i => decide (i < 385)) = true := by decide +kernel
theorem rsk_big {ci k j : Nat} (h : 40 ≤ j) : rsk ci k j = none := by
  unfold rsk
  split <;> first | rfl | omega | (rw [if_neg (by omega)])
theorem rs_lt {k j i : Nat} (hk : k < 385) (h : rs k j = some i) : i < 385 := by
  by_cases hj : j < 40
  · have := rs_lt0 k hk j hj
    unfold rs at h
    rw [h] at this
    simpa using this
  · unfold rs at h
    rw [rsk_big (by omega)] at h
    cases h
theorem ext_ad {X : Xt} {a k : Nat} (h : k < 385) : xad (ext X a) k = xad X k := by
  show (if k = 385 then a else xad X k) = _
  rw [if_neg (by omega)]
theorem ext_cel {X : Xt} {a k : Nat} {f : Nat → Int32} (hk : k < 385) : cel (ext X a) k f = cel X k f := by
  have h1 : ∀ j, (rs k j).map (xad (ext X a)) = (rs k j).map (xad X) := by
    intro j
    cases h : rs k j with
    | none => rfl
    | some i => simp only [Option.map_some]; rw [ext_ad (rs_lt hk h)]
  have h2 : fvs (ext X a) k f = fvs X k f := by
    funext j
    unfold fvs
    cases h : rs k j with
    | none => rfl
    | some i => show Value.ref _ = Value.ref _; rw [ext_ad (rs_lt hk h)]
  unfold cel
  rw [h2]
  simp only [h1]
  rfl
section LOOKS
variable {R : Type} {K : Kt} {Rm : Room} {X : Xt} {cc : ByteArray} {nL : Nat} {own : String} {ret : Option FieldType} {fin : R → Mem → State → Prop} {cells slots pc nx : Nat} {ls : List (Nat × Value)} {st : List Value} {σ : Mem} {ex : Option (R × Mem)}
theorem ge_newa {f : Mem → Option (R × Mem)} (hd : Dc cc pc (.newarray .int) 2 nx) (hwd : Cond.arrayClass .int ∈ TB) (hn : xn X = 385) (hc : cells + 1 ≤ Rm.cells) (hs : slots + 12 ≤ Rm.slots)
    (kk : ∀ a σ1, GE K Rm (ext X a) cc nL own ret fin (cells + 1) (slots + 12) nx ls (.ref (xad (ext X a) 385) :: st) σ1 (f σ1)) : GE K Rm X cc nL own ret fin cells slots pc ls (.int 12 :: st) σ (lt (zer σ) f) := by
  obtain ⟨hd, rfl⟩ := hd
  intro C r σ' hex H locs lsA hw hS hl
  have hX := C.2.2.2.2.2.2.1
  refine va_newaK (atype := .int) C.1 C.2.1 (C.2.2.2.2.1 _ hwd) rfl hd rfl (by decide) (N := 12) rfl (by decide) hc hs (h := H.size) rfl fun H1 cA e1 z1 o1 hAr hNm => ?_
  have hcA : cA = xac X 0 := by
    have h := (C.2.2.2.2.2.1.2 0 _ rfl).2
    exact Option.some.inj (hNm.symm.trans h)
  have hlt : ∀ k, k < 385 → xad X k < H.size := fun k hk => (hw k (by omega)).lt
  have hB : xB X ≤ H.size := Nat.le_trans (hX.2.1 0 (by omega)) (Nat.le_of_lt (hlt 0 (by omega)))
  have hX' : Xok (ext X H.size) := by
    refine ⟨show 385 ≤ 386 by decide, fun k hk => ?_, fun i j hi hj e => ?_⟩
    · have hk : k < 386 := hk
      by_cases e : k = 385
      · subst e; exact hB
      · rw [ext_ad (by omega)]; exact hX.2.1 k (by omega)
    · have hi : i < 386 := hi
      have hj : j < 386 := hj
      by_cases e1 : i = 385 <;> by_cases e2 : j = 385
      · omega
      · subst e1
        rw [ext_ad (show j < 385 by omega)] at e
        have e : H.size = xad X j := e
        have := hlt j (by omega)
        omega
      · subst e2
        rw [ext_ad (show i < 385 by omega)] at e
        have e : xad X i = H.size := e
        have := hlt i (by omega)
        omega
      · rw [ext_ad (by omega), ext_ad (by omega)] at e
        exact hX.2.2 i j (by omega) (by omega) e
  have hw1 : World (ext X H.size) (zer σ) H1 := by
    intro k hk
    have hk : k < 386 := hk
    by_cases e : k = 385
    · subst e
      rw [cel_int (by decide)]
      show H1[H.size]? = some (vp_cell (xac X 0) (12, .inl (zer σ 385)))
      rw [e1, hcA, vp_cell_i]
      congr 1
    · rw [ext_cel (by omega), ext_ad (by omega)]
      have hz : zer σ k = σ k := by funext j; simp [zer, e]
      rw [hz]
      exact (hw k (by omega)).kept (o1 _ (hlt k (by omega)))
  exact kk H.size (zer σ) ⟨C.1, C.2.1, C.2.2.1, C.2.2.2.1, C.2.2.2.2.1, C.2.2.2.2.2.1, hX', C.2.2.2.2.2.2.2.1, C.2.2.2.2.2.2.2.2⟩ r σ' hex H1 locs lsA hw1 ⟨Nat.le_trans hS.1 (by omega), fun q h1 h2 => (o1 q (Nat.lt_of_lt_of_le h1 hS.1)).trans (hS.2.1 q h1 h2), hS.2.2⟩ hl
theorem ge_vretX {a mc ms : Nat} (hn : xn X = 385) (hr : ret = none) (hd : Dc cc pc .return_ 1 nx) : GE K Rm (ext X a) cc nL own ret (finM K X ιV mc ms) mc ms pc ls [] σ (some ((), σ)) := by
  intro C r σ' hex H locs lsA hw hS hl
  cases hex
  have hX' := C.2.2.2.2.2.2.1
  have hX : Xok X := by
    refine ⟨by omega, fun k hk => ?_, fun i j hi hj e => ?_⟩
    · have := hX'.2.1 k (show k < 386 by omega)
      rw [ext_ad (by omega)] at this
      exact this
    · exact hX'.2.2 i j (show i < 386 by omega) (show j < 386 by omega) (by rw [ext_ad (by omega), ext_ad (by omega)]; exact e)
  have hw0 : World X σ H := by
    intro k hk
    have h := hw k (show k < 386 by omega)
    rw [ext_cel (by omega), ext_ad (by omega)] at h
    exact h
  have C' : Cx K X cc nL own ret := ⟨C.1, C.2.1, C.2.2.1, C.2.2.2.1, C.2.2.2.2.1, C.2.2.2.2.2.1, hX, C.2.2.2.2.2.2.2.1, C.2.2.2.2.2.2.2.2⟩
  exact W.vret (Qc := Qs X ιV () σ) C.1 C.2.1 (C.2.2.2.2.2.2.2.2.1.trans hr) (fun t ht hW => ⟨rfl, C'.wd hw0 hS ht hW.alike, hS.F ht⟩) hS.2.2 hd.1 (hlocks := C.2.2.2.2.2.2.2.2.2)
theorem ge_iald5 {i : Int32} (hn : 385 < xn X) (hd : Dc cc pc .iaload 1 nx) (kk : GE K Rm X cc nL own ret fin cells slots nx ls (.int (σ 385 (ix i)) :: st) σ ex) : GE K Rm X cc nL own ret fin cells slots pc ls (.int i :: .ref (xad X 385) :: st) σ (ck (inb i 12) ex) :=
  ge_ialdX (k := 385) hn (by decide) hd kk
theorem ge_iast5 {i v : Int32} {f : Mem → Option (R × Mem)} (hn : 385 < xn X) (hd : Dc cc pc .iastore 1 nx) (kk : ∀ σ1, GE K Rm X cc nL own ret fin cells slots nx ls st σ1 (f σ1)) : GE K Rm X cc nL own ret fin cells slots pc ls (.int v :: .int i :: .ref (xad X 385) :: st) σ (ck (inb i 12) (lt (sto σ 385 (ix i) v) f)) :=
  ge_iastX (k := 385) hn (by decide) hd kk
end LOOKS

