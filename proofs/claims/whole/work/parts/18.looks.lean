/-! ===== looks: one array more, for the time of the call ===== -/
def zer (σ : Mem) : Mem := fun k j => if k = 385 then 0 else σ k j
def ext (X : Xt) (a : Nat) : Xt := (fun k => if k = 385 then a else xad X k, xD X, xac X, xsa X, 386, xB X)
theorem rs_lt0 : ∀ k, k < 385 → ∀ j, j < 40 → (rsk (kd k) k j).all (fun i => decide (i < 385)) = true := by decide +kernel
theorem rsk_big {ci k j : Nat} (h : 40 ≤ j) : rsk ci k j = none := by
  unfold rsk
  split <;> first | rfl | omega | (rw [if_neg (by omega)])
theorem rs_lt {k j i : Nat} (hk : k < 385) (h : rs k j = some i) : i < 385 := by
  by_cases hj : j < 40
  · have := rs_lt0 k hk j hj
    unfold rs at h
    rw [h] at this
    simpa using this
  · unfold rs at h
    rw [rsk_big (by omega)] at h
    cases h
theorem ext_ad {X : Xt} {a k : Nat} (h : k < 385) : xad (ext X a) k = xad X k := by
  show (if k = 385 then a else xad X k) = _
  rw [if_neg (by omega)]
theorem ext_cel {X : Xt} {a k : Nat} {f : Nat → Int32} (hk : k < 385) : cel (ext X a) k f = cel X k f := by
  have h1 : ∀ j, (rs k j).map (xad (ext X a)) = (rs k j).map (xad X) := by
    intro j
    cases h : rs k j with
    | none => rfl
    | some i => simp only [Option.map_some]; rw [ext_ad (rs_lt hk h)]
  have h2 : fvs (ext X a) k f = fvs X k f := by
    funext j
    unfold fvs
    cases h : rs k j with
    | none => rfl
    | some i => show Value.ref _ = Value.ref _; rw [ext_ad (rs_lt hk h)]
  unfold cel
  rw [h2]
  simp only [h1]
  rfl
section LOOKS
variable {R : Type} {K : Kt} {Rm : Room} {X : Xt} {cc : ByteArray} {nL : Nat} {own : String} {ret : Option FieldType} {fin : R → Mem → State → Prop} {cells slots pc nx : Nat} {ls : List (Nat × Value)} {st : List Value} {σ : Mem} {ex : Option (R × Mem)}
theorem ge_newa {f : Mem → Option (R × Mem)} (hd : Dc cc pc (.newarray .int) 2 nx) (hwd : Cond.arrayClass .int ∈ TB) (hn : xn X = 385) (hc : cells + 1 ≤ Rm.cells) (hs : slots + 12 ≤ Rm.slots)
    (kk : ∀ a σ1, GE K Rm (ext X a) cc nL own ret fin (cells + 1) (slots + 12) nx ls (.ref (xad (ext X a) 385) :: st) σ1 (f σ1)) : GE K Rm X cc nL own ret fin cells slots pc ls (.int 12 :: st) σ (lt (zer σ) f) := by
  obtain ⟨hd, rfl⟩ := hd
  intro C r σ' hex H locs lsA hw hS hl
  have hX := C.2.2.2.2.2.2.1
  refine va_newaK (atype := .int) C.1 C.2.1 (C.2.2.2.2.1 _ hwd) rfl hd rfl (by decide) (N := 12) rfl (by decide) hc hs (h := H.size) rfl fun H1 cA e1 z1 o1 hAr hNm => ?_
  have hcA : cA = xac X 0 := by
    have h := (C.2.2.2.2.2.1.2 0 _ rfl).2
    exact Option.some.inj (hNm.symm.trans h)
  have hlt : ∀ k, k < 385 → xad X k < H.size := fun k hk => (hw k (by omega)).lt
  have hB : xB X ≤ H.size := Nat.le_trans (hX.2.1 0 (by omega)) (Nat.le_of_lt (hlt 0 (by omega)))
  have hX' : Xok (ext X H.size) := by
    refine ⟨show 385 ≤ 386 by decide, fun k hk => ?_, fun i j hi hj e => ?_⟩
    · have hk : k < 386 := hk
      by_cases e : k = 385
      · subst e; exact hB
      · rw [ext_ad (by omega)]; exact hX.2.1 k (by omega)
    · have hi : i < 386 := hi
      have hj : j < 386 := hj
      by_cases e1 : i = 385 <;> by_cases e2 : j = 385
      · omega
      · subst e1
        rw [ext_ad (show j < 385 by omega)] at e
        have e : H.size = xad X j := e
        have := hlt j (by omega)
        omega
      · subst e2
        rw [ext_ad (show i < 385 by omega)] at e
        have e : xad X i = H.size := e
        have := hlt i (by omega)
        omega
      · rw [ext_ad (by omega), ext_ad (by omega)] at e
        exact hX.2.2 i j (by omega) (by omega) e
  have hw1 : World (ext X H.size) (zer σ) H1 := by
    intro k hk
    have hk : k < 386 := hk
    by_cases e : k = 385
    · subst e
      rw [cel_int (by decide)]
      show H1[H.size]? = some (vp_cell (xac X 0) (12, .inl (zer σ 385)))
      rw [e1, hcA, vp_cell_i]
      congr 1
    · rw [ext_cel (by omega), ext_ad (by omega)]
      have hz : zer σ k = σ k := by funext j; simp [zer, e]
      rw [hz]
      exact (hw k (by omega)).kept (o1 _ (hlt k (by omega)))
  exact kk H.size (zer σ) ⟨C.1, C.2.1, C.2.2.1, C.2.2.2.1, C.2.2.2.2.1, C.2.2.2.2.2.1, hX', C.2.2.2.2.2.2.2.1, C.2.2.2.2.2.2.2.2⟩ r σ' hex H1 locs lsA hw1 ⟨Nat.le_trans hS.1 (by omega), fun q h1 h2 => (o1 q (Nat.lt_of_lt_of_le h1 hS.1)).trans (hS.2.1 q h1 h2), hS.2.2⟩ hl
theorem ge_vretX {a mc ms : Nat} (hn : xn X = 385) (hr : ret = none) (hd : Dc cc pc .return_ 1 nx) : GE K Rm (ext X a) cc nL own ret (finM K X ιV mc ms) mc ms pc ls [] σ (some ((), σ)) := by
  intro C r σ' hex H locs lsA hw hS hl
  cases hex
  have hX' := C.2.2.2.2.2.2.1
  have hX : Xok X := by
    refine ⟨by omega, fun k hk => ?_, fun i j hi hj e => ?_⟩
    · have := hX'.2.1 k (show k < 386 by omega)
      rw [ext_ad (by omega)] at this
      exact this
    · exact hX'.2.2 i j (show i < 386 by omega) (show j < 386 by omega) (by rw [ext_ad (by omega), ext_ad (by omega)]; exact e)
  have hw0 : World X σ H := by
    intro k hk
    have h := hw k (show k < 386 by omega)
    rw [ext_cel (by omega), ext_ad (by omega)] at h
    exact h
  have C' : Cx K X cc nL own ret := ⟨C.1, C.2.1, C.2.2.1, C.2.2.2.1, C.2.2.2.2.1, C.2.2.2.2.2.1, hX, C.2.2.2.2.2.2.2.1, C.2.2.2.2.2.2.2.2⟩
  exact W.vret (Qc := Qs X ιV () σ) C.1 C.2.1 (C.2.2.2.2.2.2.2.2.1.trans hr) (fun t ht hW => ⟨rfl, C'.wd hw0 hS ht hW.alike, hS.F ht⟩) hS.2.2 hd.1 (hlocks := C.2.2.2.2.2.2.2.2.2)
theorem ge_iald5 {i : Int32} (hn : 385 < xn X) (hd : Dc cc pc .iaload 1 nx) (kk : GE K Rm X cc nL own ret fin cells slots nx ls (.int (σ 385 (ix i)) :: st) σ ex) : GE K Rm X cc nL own ret fin cells slots pc ls (.int i :: .ref (xad X 385) :: st) σ (ck (inb i 12) ex) :=
  ge_ialdX (k := 385) hn (by decide) hd kk
theorem ge_iast5 {i v : Int32} {f : Mem → Option (R × Mem)} (hn : 385 < xn X) (hd : Dc cc pc .iastore 1 nx) (kk : ∀ σ1, GE K Rm X cc nL own ret fin cells slots nx ls st σ1 (f σ1)) : GE K Rm X cc nL own ret fin cells slots pc ls (.int v :: .int i :: .ref (xad X 385) :: st) σ (ck (inb i 12) (lt (sto σ 385 (ix i) v) f)) :=
  ge_iastX (k := 385) hn (by decide) hd kk
end LOOKS
def rmX11_looks : Room := { frames := 4, cells := 1, slots := 12, locals := 97 }
def fX11_looks_L165_b  (k217 : Mem → Option (Unit × Mem)) (y21 : Int32) (y22 : Int32) (rec : Mem → Int32 → Option (Unit × Mem)) (m20 : Mem) (x23 : Int32) : Option (Unit × Mem) :=
  if x23 < (m20 362 8) then
    ck (inb x23 12) <|
    lt ((m20 385 (ix x23)) ||| ((1 : Int32) <<< (x23 &&& 31))) <| fun x26 =>
    cl (fX11_has m20 y22 x23) <| fun r28 m27 =>
    lt (fun (m29 : Mem) =>
      rec m29 (x23 + (1 : Int32))) <| fun j211 =>
    if r28 = (0 : Int32) then
      j211 m27
    else
      if (y22 &&& (x26 ^^^ (-1 : Int32))) = (0 : Int32) then
        ck (inb y21 4096) <|
        lt (sto m27 372 (ix y21) x23) <| fun m30 =>
        j211 m30
      else
        j211 m27
  else
    k217 m20
def fX11_looks_L165  (k217 : Mem → Option (Unit × Mem)) (y21 : Int32) (y22 : Int32) : Nat → Mem → Int32 → Option (Unit × Mem)
  | 0 => fun _ _ => none
  | n + 1 => fun m20 x23 => fX11_looks_L165_b  k217 y21 y22 (fX11_looks_L165  k217 y21 y22 n) m20 x23
def fX11_looks_L99_b  (k137 : Mem → Int32 → Option (Unit × Mem)) (y10 : Int32) (rec : Mem → Int32 → Int32 → Option (Unit × Mem)) (m9 : Mem) (x11 : Int32) (x12 : Int32) : Option (Unit × Mem) :=
  if x12 < (m9 362 8) then
    cl (fX11_fitsWord m9 x12 y10) <| fun r32 m31 =>
    lt (fun (v33 : Int32) =>
      lt (x11 ||| v33) <| fun x34 =>
      rec m31 x34 (x12 + (1 : Int32))) <| fun j128 =>
    if r32 = (0 : Int32) then
      j128 (0 : Int32)
    else
      j128 ((1 : Int32) <<< (x12 &&& 31))
  else
    k137 m9 x11
def fX11_looks_L99  (k137 : Mem → Int32 → Option (Unit × Mem)) (y10 : Int32) : Nat → Mem → Int32 → Int32 → Option (Unit × Mem)
  | 0 => fun _ _ _ => none
  | n + 1 => fun m9 x11 x12 => fX11_looks_L99_b  k137 y10 (fX11_looks_L99  k137 y10 n) m9 x11 x12
def fX11_looks_L86_b  (k223 : Mem → Option (Unit × Mem))  (rec : Mem → Int32 → Option (Unit × Mem)) (m5 : Mem) (x6 : Int32) : Option (Unit × Mem) :=
  if x6 < (4096 : Int32) then
    fX11_looks_L99 
      (fun (m15 : Mem) (x16 : Int32) =>
        ck (inb x6 4096) <|
        lt (sto m15 371 (ix x6) x16) <| fun m17 =>
        lt (fun (v18 : Int32) =>
          ck (inb x6 4096) <|
          lt (sto m17 372 (ix x6) v18) <| fun m19 =>
          fX11_looks_L165 
            (fun (m25 : Mem) =>
              rec m25 (x6 + (1 : Int32)))
            x6 x16 5000 m19 (0 : Int32)) <| fun j161 =>
        if x16 = (0 : Int32) then
          j161 (-1 : Int32)
        else
          j161 (-2 : Int32))
      x6 5000 m5 (0 : Int32) (0 : Int32)
  else
    k223 m5
def fX11_looks_L86  (k223 : Mem → Option (Unit × Mem))  : Nat → Mem → Int32 → Option (Unit × Mem)
  | 0 => fun _ _ => none
  | n + 1 => fun m5 x6 => fX11_looks_L86_b  k223  (fX11_looks_L86  k223  n) m5 x6
def fX11_looks_L33_b  (k78 : Mem → Option (Unit × Mem)) (y36 : Int32) (rec : Mem → Int32 → Option (Unit × Mem)) (m35 : Mem) (x37 : Int32) : Option (Unit × Mem) :=
  if x37 < (m35 362 8) then
    ck (inb y36 12) <|
    lt (fun (m40 : Mem) (v41 : Int32) =>
      ck (inb y36 12) <|
      lt (sto m40 385 (ix y36) ((m35 385 (ix y36)) ||| v41)) <| fun m42 =>
      rec m42 (x37 + (1 : Int32))) <| fun j70 =>
    lt (fun (m43 : Mem) =>
      j70 m43 (0 : Int32)) <| fun j69 =>
    if x37 = y36 then
      j69 m35
    else
      cl (fX11_isOver m35 y36 x37) <| fun r45 m44 =>
      if r45 = (0 : Int32) then
        j69 m44
      else
        j70 m44 ((1 : Int32) <<< (x37 &&& 31))
  else
    k78 m35
def fX11_looks_L33  (k78 : Mem → Option (Unit × Mem)) (y36 : Int32) : Nat → Mem → Int32 → Option (Unit × Mem)
  | 0 => fun _ _ => none
  | n + 1 => fun m35 x37 => fX11_looks_L33_b  k78 y36 (fX11_looks_L33  k78 y36 n) m35 x37
def fX11_looks_L22_b  (k84 : Mem → Option (Unit × Mem))  (rec : Mem → Int32 → Option (Unit × Mem)) (m1 : Mem) (x2 : Int32) : Option (Unit × Mem) :=
  if x2 < (m1 362 8) then
    fX11_looks_L33 
      (fun (m39 : Mem) =>
        rec m39 (x2 + (1 : Int32)))
      x2 5000 m1 (0 : Int32)
  else
    k84 m1
def fX11_looks_L22  (k84 : Mem → Option (Unit × Mem))  : Nat → Mem → Int32 → Option (Unit × Mem)
  | 0 => fun _ _ => none
  | n + 1 => fun m1 x2 => fX11_looks_L22_b  k84  (fX11_looks_L22  k84  n) m1 x2
def fX11_looks_t (m0 : Mem) (a1 : Int32) : Option (Unit × Mem) :=
  fX11_looks_L22 
    (fun (m4 : Mem) =>
      fX11_looks_L86 
        (fun (m8 : Mem) =>
          some ((), m8))
        5000 m4 (0 : Int32))
    5000 m0 (0 : Int32)
def fX11_looks (m0 : Mem) : Option (Unit × Mem) :=
  if (m0 362 11) = (0 : Int32) then
    lt (sto m0 362 11 (1 : Int32)) <| fun m1 =>
    lt (zer m1) <| fun m2 =>
    fX11_looks_t m2 (0 : Int32)
  else
    some ((), m0)
