/-! ===== rows: worlds under reads and writes ===== -/
theorem va_P_one {D : va_G} {c : List vw_C} {q : Nat × va_E} {H : Heap} (h : va_at D c q H) : va_P D c [q] H := by
  intro k q' hk
  cases k with
  | zero => cases hk; exact h
  | succ k => simp at hk
theorem va_D_one {A : Nat → Prop} {q : Nat × va_E} (h : A q.1) : va_D A [q] := by
  refine ⟨fun i j p r hi hj _ => ?_, fun k r hk => ?_⟩
  · have h1 := (List.getElem?_eq_some_iff.mp hi).1
    have h2 := (List.getElem?_eq_some_iff.mp hj).1
    simp at h1 h2
    omega
  · cases k with
    | zero => cases hk; exact h
    | succ k => simp at hk
theorem sto_at (σ : Mem) (k j : Nat) (v : Int32) : sto σ k j v k j = v := by simp [sto]
theorem sto_cell {σ : Mem} {k j k' : Nat} {v : Int32} (h : k' ≠ k) : sto σ k j v k' = σ k' := by
  funext b
  simp [sto, h]
theorem sto_row (σ : Mem) (k j : Nat) (v : Int32) : sto σ k j v k = upd (σ k) j v := by
  funext b
  simp [sto, upd]
theorem World.at {X : Xt} {σ : Mem} {H : Heap} (h : World X σ H) {k : Nat} (hk : k < xn X) : va_P (xD X) vwCl [(xad X k, cel X k (σ k))] H := va_P_one (h k hk)
/-- one cell's ints are other ones, all else stays -/
theorem World.set {X : Xt} {σ σ1 : Mem} {H H1 : Heap} (h : World X σ H) (hX : Xok X) {k : Nat} (hk : k < xn X) (hc : va_at (xD X) vwCl (xad X k, cel X k (σ1 k)) H1) (hs : ∀ k', k' ≠ k → σ1 k' = σ k') (oq : ∀ q : Nat, q ≠ xad X k → H1[q]? = H[q]?) : World X σ1 H1 := by
  intro k' hk'
  by_cases e : k' = k
  · subst e; exact hc
  · rw [hs k' e]
    exact (h k' hk').kept (oq _ (fun z => e (hX.2.2 k' k hk' hk z)))
theorem cel_obj {X : Xt} {k : Nat} {f : Nat → Int32} {ci : Nat} (h : kd k = ci) (hc : ci < 12) : cel X k f = .inr (ci, (List.range (nfo ci)).map (fvs X k f)) := by
  subst h; unfold cel; rw [if_pos hc]
theorem cel_int {X : Xt} {k : Nat} {f : Nat → Int32} (h : kd k = 12) : cel X k f = .inl (xac X 0, al k, .inl f) := by
  unfold cel; rw [h]; rfl
theorem cel_ref {X : Xt} {k : Nat} {f : Nat → Int32} {t : Nat} (h : kd k = t) (h1 : 12 < t) : cel X k f = .inl (xac X (t - 12), al k, .inr (.inr (.inr (.inr (fun j => (rs k j).map (xad X)))))) := by
  subst h
  unfold cel
  rw [if_neg (by omega), if_neg (by omega)]
theorem Sta.step {X : Xt} {s t : State} (h : Sta X s) (hvm : s.vm.Alike t.vm) (hF : va_F (xA X) s t) : Sta X t := fun j hj =>
  ⟨((h j hj).1.moved hvm).kept hF.2, ((h j hj).2.moved hvm).kept hF.2⟩
theorem Wd.calling {X : Xt} {σ : Mem} {U : State} {g : JFrame} {mk : MethodId} {a : Array Value} (h : Wd X σ U) : Wd X σ (U.calling g mk a) :=
  ⟨h.1, va_K.moved (u := U) (U := U.calling g mk a) (Vm.Alike.refl U.vm) h.2.1, h.2.2.1, h.2.2.2.step (t := U.calling g mk a) (Vm.Alike.refl U.vm) ⟨Nat.le_refl _, fun _ _ _ => rfl⟩⟩
section ROWS
variable {R : Type} {K : Kt} {Rm : Room} {X : Xt} {cc : ByteArray} {nL : Nat} {own : String} {ret : Option FieldType} {fin : R → Mem → State → Prop} {cells slots pc nx : Nat} {ls : List (Nat × Value)} {st : List Value} {σ : Mem} {ex : Option (R × Mem)}
theorem Cx.wd (C : Cx K X cc nL own ret) {H : Heap} {locs : List Loc} (hw : World X σ H) (hS : va_S (xA X) (ks K).heap H locs) {U : State} (hU : U.heap = H) (hvm : (ks K).vm.Alike U.vm) : Wd X σ U :=
  ⟨by rw [hU]; exact hw, va_K.moved hvm C.2.2.2.2.2.1, C.2.2.2.2.2.2.1, C.2.2.2.2.2.2.2.1.step hvm (hS.F hU)⟩
/-- the start of a method -/
theorem ct_of {l : Launch} {y : MethodName} {rm : Room} {ι : R → Option Value} {av : List Value} {fe : Option (R × Mem)} {ls : List (Nat × Value)} (hy : plainName y.cls = true) (ho : y.cls = own) (hls : lv_args 0 av = ls) (hn : (lg_sl av).length ≤ nL)
    (h : ∀ K : Kt, GE (R := R) K rm X cc nL own ret (finM K X ι rm.cells rm.slots) 0 0 0 ls [] σ fe) : Ct l y cc nL ret rm ι X av σ fe := by
  intro r σ' hfe
  refine Met.ofW (cc := cc) (maxL := nL) (ret := ret) hy rfl ?_
  intro p e s m args below meth c s₁ B hml hv
  obtain ⟨rfl, hW, hK, hX, hSt⟩ := hv
  have hts := atoms_spec (ws := wsQ y cc nL ret) B.pre
  have hown : s.vm.findClass own = some m.cls := by rw [← ho]; exact findClass_of_methodNamed B.named
  have hl := lv_entry av (n := nL) hn
  rw [lg_entry_eq]
  exact h (p, l, e, s, m, av.toArray, below, meth, c) ⟨B.exec, B.bytes, hml, hown, fun w hw => hts w (List.mem_cons_of_mem _ hw), hK, hX, hSt, B.returns, B.notSynchronized⟩ r σ' hfe s.heap [] _ hW va_S.rf (by rw [← hls]; exact hl)
/-- ends -/
theorem ge_iret {mc ms : Nat} {v : Int32} (hr : ret = some .int) (hd : Dc cc pc .ireturn 1 nx) : GE K Rm X cc nL own ret (finM K X ιI mc ms) mc ms pc ls [.int v] σ (some (v, σ)) := by
  intro C r σ' hex H locs lsA hw hS hl
  cases hex
  exact W.iret (Qc := Qs X ιI v σ) C.1 C.2.1 (C.2.2.2.2.2.2.2.2.1.trans hr) (fun t ht hW => ⟨rfl, C.wd hw hS ht hW.alike, hS.F ht⟩) hS.2.2 hd.1 (hlocks := C.2.2.2.2.2.2.2.2.2)
theorem ge_zret {mc ms : Nat} {v : Int32} (hr : ret = some .boolean) (hd : Dc cc pc .ireturn 1 nx) : GE K Rm X cc nL own ret (finM K X ιI mc ms) mc ms pc ls [.int v] σ (ck (isB v) (some (v, σ))) := by
  intro C r σ' hex H locs lsA hw hS hl
  obtain ⟨hv, hex⟩ := ck_some hex
  cases hex
  exact W.zret (Qc := Qs X ιI v σ) (ty := .boolean) C.1 C.2.1 (C.2.2.2.2.2.2.2.2.1.trans hr) (isB_nar hv) (fun t ht hW => ⟨rfl, C.wd hw hS ht hW.alike, hS.F ht⟩) hS.2.2 hd.1 (hlocks := C.2.2.2.2.2.2.2.2.2)
theorem ge_zretc {mc ms : Nat} {v : Int32} (hv : isB v = true) (hr : ret = some .boolean) (hd : Dc cc pc .ireturn 1 nx) : GE K Rm X cc nL own ret (finM K X ιI mc ms) mc ms pc ls [.int v] σ (some (v, σ)) := by
  have h := ge_zret (K := K) (Rm := Rm) (X := X) (cc := cc) (nL := nL) (own := own) (ls := ls) (σ := σ) (mc := mc) (ms := ms) (v := v) hr hd
  rw [hv] at h
  exact h
theorem ge_lret {mc ms : Nat} {v : Int64} (hr : ret = some .long) (hd : Dc cc pc .lreturn 1 nx) : GE K Rm X cc nL own ret (finM K X ιL mc ms) mc ms pc ls [.long v] σ (some (v, σ)) := by
  intro C r σ' hex H locs lsA hw hS hl
  cases hex
  exact W.lret (Qc := Qs X ιL v σ) C.1 C.2.1 (C.2.2.2.2.2.2.2.2.1.trans hr) (fun t ht hW => ⟨rfl, C.wd hw hS ht hW.alike, hS.F ht⟩) hS.2.2 hd.1 (hlocks := C.2.2.2.2.2.2.2.2.2)
theorem ge_vret {mc ms : Nat} (hr : ret = none) (hd : Dc cc pc .return_ 1 nx) : GE K Rm X cc nL own ret (finM K X ιV mc ms) mc ms pc ls [] σ (some ((), σ)) := by
  intro C r σ' hex H locs lsA hw hS hl
  cases hex
  exact W.vret (Qc := Qs X ιV () σ) C.1 C.2.1 (C.2.2.2.2.2.2.2.2.1.trans hr) (fun t ht hW => ⟨rfl, C.wd hw hS ht hW.alike, hS.F ht⟩) hS.2.2 hd.1 (hlocks := C.2.2.2.2.2.2.2.2.2)
theorem ge_aret {mc ms k : Nat} {rt : FieldType} (hr : ret = some rt) (hrt : (∃ n, rt = .object n) ∨ ∃ t, rt = .array t) (hd : Dc cc pc .areturn 1 nx) : GE K Rm X cc nL own ret (finM K X (ιR X) mc ms) mc ms pc ls [.ref (xad X k)] σ (some (k, σ)) := by
  intro C r σ' hex H locs lsA hw hS hl
  cases hex
  exact W.aret (Qc := Qs X (ιR X) k σ) C.1 C.2.1 (C.2.2.2.2.2.2.2.2.1.trans hr) hrt (Or.inr ⟨_, rfl⟩) (fun t ht hW => ⟨rfl, C.wd hw hS ht hW.alike, hS.F ht⟩) hS.2.2 hd.1 (hlocks := C.2.2.2.2.2.2.2.2.2)
theorem ge_none : GE K Rm X cc nL own ret fin cells slots pc ls st σ none := fun _ _ _ h => by cases h
/-- constants and locals -/
theorem ge_iconst {n : Int} {v : Int32} (hd : Dc cc pc (.iconst n) 1 nx) (hv : Int32.ofInt n = v) (kk : GE K Rm X cc nL own ret fin cells slots nx ls (.int v :: st) σ ex) : GE K Rm X cc nL own ret fin cells slots pc ls st σ ex := by
  obtain ⟨hd, rfl⟩ := hd
  exact fun C r σ' hex H locs lsA hw hS hl => lv_iconst C.1 C.2.1 hd hv (kk C r σ' hex H locs lsA hw hS hl)
theorem ge_bipush {n : Int} {v : Int32} (hd : Dc cc pc (.bipush n) 2 nx) (hv : (Int8.ofInt n).toInt32 = v) (kk : GE K Rm X cc nL own ret fin cells slots nx ls (.int v :: st) σ ex) : GE K Rm X cc nL own ret fin cells slots pc ls st σ ex := by
  obtain ⟨hd, rfl⟩ := hd
  exact fun C r σ' hex H locs lsA hw hS hl => lv_bipush C.1 C.2.1 hd hv (kk C r σ' hex H locs lsA hw hS hl)
theorem ge_sipush {n : Int} {v : Int32} (hd : Dc cc pc (.sipush n) 3 nx) (hv : (Int16.ofInt n).toInt32 = v) (kk : GE K Rm X cc nL own ret fin cells slots nx ls (.int v :: st) σ ex) : GE K Rm X cc nL own ret fin cells slots pc ls st σ ex := by
  obtain ⟨hd, rfl⟩ := hd
  exact fun C r σ' hex H locs lsA hw hS hl => lv_sipush C.1 C.2.1 hd hv (kk C r σ' hex H locs lsA hw hS hl)
theorem ge_lconst {n : Fin 2} {v : Int64} (hd : Dc cc pc (.lconst n) 1 nx) (hv : Int64.ofNat (n : Nat) = v) (kk : GE K Rm X cc nL own ret fin cells slots nx ls (.long v :: st) σ ex) : GE K Rm X cc nL own ret fin cells slots pc ls st σ ex := by
  obtain ⟨hd, rfl⟩ := hd
  exact fun C r σ' hex H locs lsA hw hS hl => lv_lconst C.1 C.2.1 hd hv (kk C r σ' hex H locs lsA hw hS hl)
theorem ge_ldc2 {i : Nat} {v : Int64} (hw1 : Cond.constantLong own i v ∈ TB) (hd : Dc cc pc (.ldc2_w i) 3 nx) (kk : GE K Rm X cc nL own ret fin cells slots nx ls (.long v :: st) σ ex) : GE K Rm X cc nL own ret fin cells slots pc ls st σ ex := by
  obtain ⟨hd, rfl⟩ := hd
  exact fun C r σ' hex H locs lsA hw hS hl => lv_ldc2 C.1 C.2.1 C.2.2.2.1 (C.2.2.2.2.1 _ hw1) hd (kk C r σ' hex H locs lsA hw hS hl)
theorem ge_ldcw {i : Nat} {v : Int32} (hw1 : Cond.constant own i v ∈ TB) (hd : Dc cc pc (.ldc_w i) 3 nx) (kk : GE K Rm X cc nL own ret fin cells slots nx ls (.int v :: st) σ ex) : GE K Rm X cc nL own ret fin cells slots pc ls st σ ex := by
  obtain ⟨hd, rfl⟩ := hd
  exact fun C r σ' hex H locs lsA hw hS hl => lv_ldcw C.1 C.2.1 C.2.2.2.1 (C.2.2.2.2.1 _ hw1) hd (kk C r σ' hex H locs lsA hw hS hl)
theorem ge_ldc {i : Nat} {v : Int32} (hw1 : Cond.constant own i v ∈ TB) (hd : Dc cc pc (.ldc i) 2 nx) (kk : GE K Rm X cc nL own ret fin cells slots nx ls (.int v :: st) σ ex) : GE K Rm X cc nL own ret fin cells slots pc ls st σ ex := by
  obtain ⟨hd, rfl⟩ := hd
  exact fun C r σ' hex H locs lsA hw hS hl => lv_ldc C.1 C.2.1 C.2.2.2.1 (C.2.2.2.2.1 _ hw1) hd (kk C r σ' hex H locs lsA hw hS hl)
theorem ge_iload_n {k : Fin 4} {x : Int32} (q : Nat) (hd : Dc cc pc (.iload_n k) 1 nx) (hq : ls[q]? = some ((k : Nat), .int x)) (kk : GE K Rm X cc nL own ret fin cells slots nx ls (.int x :: st) σ ex) : GE K Rm X cc nL own ret fin cells slots pc ls st σ ex := by
  obtain ⟨hd, rfl⟩ := hd
  exact fun C r σ' hex H locs lsA hw hS hl => lv_iload_n C.1 C.2.1 hd rfl (lv_at hl q hq) (kk C r σ' hex H locs lsA hw hS hl)
theorem ge_iload {i : Nat} {x : Int32} (q : Nat) (hd : Dc cc pc (.iload i) 2 nx) (hq : ls[q]? = some (i, .int x)) (kk : GE K Rm X cc nL own ret fin cells slots nx ls (.int x :: st) σ ex) : GE K Rm X cc nL own ret fin cells slots pc ls st σ ex := by
  obtain ⟨hd, rfl⟩ := hd
  exact fun C r σ' hex H locs lsA hw hS hl => lv_iload C.1 C.2.1 hd (lv_at hl q hq) (kk C r σ' hex H locs lsA hw hS hl)
theorem ge_lload_n {k : Fin 4} {x : Int64} (q : Nat) (hd : Dc cc pc (.lload_n k) 1 nx) (hq : ls[q]? = some ((k : Nat), .long x)) (kk : GE K Rm X cc nL own ret fin cells slots nx ls (.long x :: st) σ ex) : GE K Rm X cc nL own ret fin cells slots pc ls st σ ex := by
  obtain ⟨hd, rfl⟩ := hd
  exact fun C r σ' hex H locs lsA hw hS hl => lv_lload_n C.1 C.2.1 hd rfl (lv_at hl q hq) (kk C r σ' hex H locs lsA hw hS hl)
theorem ge_lload {i : Nat} {x : Int64} (q : Nat) (hd : Dc cc pc (.lload i) 2 nx) (hq : ls[q]? = some (i, .long x)) (kk : GE K Rm X cc nL own ret fin cells slots nx ls (.long x :: st) σ ex) : GE K Rm X cc nL own ret fin cells slots pc ls st σ ex := by
  obtain ⟨hd, rfl⟩ := hd
  exact fun C r σ' hex H locs lsA hw hS hl => lv_lload C.1 C.2.1 hd (lv_at hl q hq) (kk C r σ' hex H locs lsA hw hS hl)
theorem ge_aload_n {k : Fin 4} {x : Nat} (q : Nat) (hd : Dc cc pc (.aload_n k) 1 nx) (hq : ls[q]? = some ((k : Nat), .ref x)) (kk : GE K Rm X cc nL own ret fin cells slots nx ls (.ref x :: st) σ ex) : GE K Rm X cc nL own ret fin cells slots pc ls st σ ex := by
  obtain ⟨hd, rfl⟩ := hd
  exact fun C r σ' hex H locs lsA hw hS hl => lv_aload_n C.1 C.2.1 hd rfl (lv_at hl q hq) (kk C r σ' hex H locs lsA hw hS hl)
theorem ge_aload {i : Nat} {x : Nat} (q : Nat) (hd : Dc cc pc (.aload i) 2 nx) (hq : ls[q]? = some (i, .ref x)) (kk : GE K Rm X cc nL own ret fin cells slots nx ls (.ref x :: st) σ ex) : GE K Rm X cc nL own ret fin cells slots pc ls st σ ex := by
  obtain ⟨hd, rfl⟩ := hd
  exact fun C r σ' hex H locs lsA hw hS hl => lv_aload C.1 C.2.1 hd (lv_at hl q hq) (kk C r σ' hex H locs lsA hw hS hl)
/-- a local takes a value: the list of what is known behind it -/
def lset (ls : List (Nat × Value)) (i : Nat) (v : Value) : List (Nat × Value) := (i, v) :: ls.filter (fun q => !(q.1 == i) && !(q.1 + 1 == i && q.2.category == 2))
def lset2 (ls : List (Nat × Value)) (i : Nat) (v : Value) : List (Nat × Value) := (i, v) :: ls.filter (fun q => !(q.1 == i) && (!(q.1 == i + 1) && !(q.1 + 1 == i && q.2.category == 2)))
theorem ge_istore_n {k : Fin 4} {x : Int32} {ls' : List (Nat × Value)} (hd : Dc cc pc (.istore_n k) 1 nx) (hn : (k : Nat) < nL) (hq : lset ls k (.int x) = ls') (kk : GE K Rm X cc nL own ret fin cells slots nx ls' st σ ex) : GE K Rm X cc nL own ret fin cells slots pc ls (.int x :: st) σ ex := by
  obtain ⟨hd, rfl⟩ := hd
  exact fun C r σ' hex H locs lsA hw hS hl => lv_istore_n C.1 C.2.1 hd rfl hl hn hq (fun lsB hl => kk C r σ' hex H locs lsB hw hS hl)
theorem ge_istore {i : Nat} {x : Int32} {ls' : List (Nat × Value)} (hd : Dc cc pc (.istore i) 2 nx) (hn : i < nL) (hq : lset ls i (.int x) = ls') (kk : GE K Rm X cc nL own ret fin cells slots nx ls' st σ ex) : GE K Rm X cc nL own ret fin cells slots pc ls (.int x :: st) σ ex := by
  obtain ⟨hd, rfl⟩ := hd
  exact fun C r σ' hex H locs lsA hw hS hl => lv_istore C.1 C.2.1 hd hl hn hq (fun lsB hl => kk C r σ' hex H locs lsB hw hS hl)
theorem ge_lstore_n {k : Fin 4} {x : Int64} {ls' : List (Nat × Value)} (hd : Dc cc pc (.lstore_n k) 1 nx) (hn : (k : Nat) + 1 < nL) (hq : lset2 ls k (.long x) = ls') (kk : GE K Rm X cc nL own ret fin cells slots nx ls' st σ ex) : GE K Rm X cc nL own ret fin cells slots pc ls (.long x :: st) σ ex := by
  obtain ⟨hd, rfl⟩ := hd
  exact fun C r σ' hex H locs lsA hw hS hl => lv_lstore_n C.1 C.2.1 hd rfl hl hn hq (fun lsB hl => kk C r σ' hex H locs lsB hw hS hl)
theorem ge_astore_n {k : Fin 4} {x : Nat} {ls' : List (Nat × Value)} (hd : Dc cc pc (.astore_n k) 1 nx) (hn : (k : Nat) < nL) (hq : lset ls k (.ref x) = ls') (kk : GE K Rm X cc nL own ret fin cells slots nx ls' st σ ex) : GE K Rm X cc nL own ret fin cells slots pc ls (.ref x :: st) σ ex := by
  obtain ⟨hd, rfl⟩ := hd
  exact fun C r σ' hex H locs lsA hw hS hl => lv_astore_n C.1 C.2.1 hd rfl hl hn hq (fun lsB hl => kk C r σ' hex H locs lsB hw hS hl)
theorem ge_astore {i : Nat} {x : Nat} {ls' : List (Nat × Value)} (hd : Dc cc pc (.astore i) 2 nx) (hn : i < nL) (hq : lset ls i (.ref x) = ls') (kk : GE K Rm X cc nL own ret fin cells slots nx ls' st σ ex) : GE K Rm X cc nL own ret fin cells slots pc ls (.ref x :: st) σ ex := by
  obtain ⟨hd, rfl⟩ := hd
  exact fun C r σ' hex H locs lsA hw hS hl => lv_astore C.1 C.2.1 hd hl hn hq (fun lsB hl => kk C r σ' hex H locs lsB hw hS hl)
theorem ge_iinc {i : Nat} {n : Int} {x v : Int32} {ls' : List (Nat × Value)} (q : Nat) (hd : Dc cc pc (.iinc i n) 3 nx) (hx : ls[q]? = some (i, .int x)) (hv : x + Int32.ofInt n = v) (hn : i < nL) (hq : lset ls i (.int v) = ls') (kk : GE K Rm X cc nL own ret fin cells slots nx ls' st σ ex) : GE K Rm X cc nL own ret fin cells slots pc ls st σ ex := by
  obtain ⟨hd, rfl⟩ := hd
  exact fun C r σ' hex H locs lsA hw hS hl => lv_iinc (k := q) C.1 C.2.1 hd hl hx hv hn hq (fun lsB hl => kk C r σ' hex H locs lsB hw hS hl)
/-- the known locals, in another order or fewer -/
theorem ge_sub {ls' : List (Nat × Value)} (ks' : List Nat) (h : lv_pick ls ks' = ls') (kk : GE K Rm X cc nL own ret fin cells slots pc ls' st σ ex) : GE K Rm X cc nL own ret fin cells slots pc ls st σ ex :=
  fun C r σ' hex H locs lsA hw hS hl => kk C r σ' hex H locs lsA hw hS (lv_sub hl ks' h)
/-- a value gets a name -/
theorem ge_topi {x : Int32} {f : Int32 → Option (R × Mem)} (kk : ∀ y, GE K Rm X cc nL own ret fin cells slots pc ls (.int y :: st) σ (f y)) : GE K Rm X cc nL own ret fin cells slots pc ls (.int x :: st) σ (lt x f) := kk x
theorem ge_topl {x : Int64} {f : Int64 → Option (R × Mem)} (kk : ∀ y, GE K Rm X cc nL own ret fin cells slots pc ls (.long y :: st) σ (f y)) : GE K Rm X cc nL own ret fin cells slots pc ls (.long x :: st) σ (lt x f) := kk x
/-- a place where ways meet: its function gets a name -/
theorem ge_jn {T : Type} {P : T → Prop} {k0 : T} {f : T → Option (R × Mem)} (h0 : P k0) (h : ∀ k, P k → GE K Rm X cc nL own ret fin cells slots pc ls st σ (f k)) : GE K Rm X cc nL own ret fin cells slots pc ls st σ (lt k0 f) := h k0 h0
theorem ge_widen {cells' slots' : Nat} (h1 : cells ≤ cells') (h2 : slots ≤ slots') (kk : GE K Rm X cc nL own ret fin cells' slots' pc ls st σ ex) : GE K Rm X cc nL own ret fin cells slots pc ls st σ ex :=
  fun C r σ' hex H locs lsA hw hS hl => W.widen h1 h2 (kk C r σ' hex H locs lsA hw hS hl)
/-! ===== rows of arithmetic, stack, branches ===== -/
theorem ge_iadd {x y : Int32} (hd : Dc cc pc .iadd 1 nx) (kk : GE K Rm X cc nL own ret fin cells slots nx ls (.int (x + y) :: st) σ ex) : GE K Rm X cc nL own ret fin cells slots pc ls (.int y :: .int x :: st) σ ex := by
  obtain ⟨hd, rfl⟩ := hd
  exact fun C r σ' hex H locs lsA hw hS hl => lv_iadd C.1 C.2.1 hd (kk C r σ' hex H locs lsA hw hS hl)
theorem ge_isub {x y : Int32} (hd : Dc cc pc .isub 1 nx) (kk : GE K Rm X cc nL own ret fin cells slots nx ls (.int (x - y) :: st) σ ex) : GE K Rm X cc nL own ret fin cells slots pc ls (.int y :: .int x :: st) σ ex := by
  obtain ⟨hd, rfl⟩ := hd
  exact fun C r σ' hex H locs lsA hw hS hl => lv_isub C.1 C.2.1 hd (kk C r σ' hex H locs lsA hw hS hl)
theorem ge_imul {x y : Int32} (hd : Dc cc pc .imul 1 nx) (kk : GE K Rm X cc nL own ret fin cells slots nx ls (.int (x * y) :: st) σ ex) : GE K Rm X cc nL own ret fin cells slots pc ls (.int y :: .int x :: st) σ ex := by
  obtain ⟨hd, rfl⟩ := hd
  exact fun C r σ' hex H locs lsA hw hS hl => lv_imul C.1 C.2.1 hd (kk C r σ' hex H locs lsA hw hS hl)
theorem ge_iand {x y : Int32} (hd : Dc cc pc .iand 1 nx) (kk : GE K Rm X cc nL own ret fin cells slots nx ls (.int (x &&& y) :: st) σ ex) : GE K Rm X cc nL own ret fin cells slots pc ls (.int y :: .int x :: st) σ ex := by
  obtain ⟨hd, rfl⟩ := hd
  exact fun C r σ' hex H locs lsA hw hS hl => lv_iand C.1 C.2.1 hd (kk C r σ' hex H locs lsA hw hS hl)
theorem ge_ior {x y : Int32} (hd : Dc cc pc .ior 1 nx) (kk : GE K Rm X cc nL own ret fin cells slots nx ls (.int (x ||| y) :: st) σ ex) : GE K Rm X cc nL own ret fin cells slots pc ls (.int y :: .int x :: st) σ ex := by
  obtain ⟨hd, rfl⟩ := hd
  exact fun C r σ' hex H locs lsA hw hS hl => lv_ior C.1 C.2.1 hd (kk C r σ' hex H locs lsA hw hS hl)
theorem ge_ixor {x y : Int32} (hd : Dc cc pc .ixor 1 nx) (kk : GE K Rm X cc nL own ret fin cells slots nx ls (.int (x ^^^ y) :: st) σ ex) : GE K Rm X cc nL own ret fin cells slots pc ls (.int y :: .int x :: st) σ ex := by
  obtain ⟨hd, rfl⟩ := hd
  exact fun C r σ' hex H locs lsA hw hS hl => lv_ixor C.1 C.2.1 hd (kk C r σ' hex H locs lsA hw hS hl)
theorem ge_ishl {x y : Int32} (hd : Dc cc pc .ishl 1 nx) (kk : GE K Rm X cc nL own ret fin cells slots nx ls (.int (x <<< (y &&& 31)) :: st) σ ex) : GE K Rm X cc nL own ret fin cells slots pc ls (.int y :: .int x :: st) σ ex := by
  obtain ⟨hd, rfl⟩ := hd
  exact fun C r σ' hex H locs lsA hw hS hl => lv_ishl C.1 C.2.1 hd (kk C r σ' hex H locs lsA hw hS hl)
theorem ge_ishr {x y : Int32} (hd : Dc cc pc .ishr 1 nx) (kk : GE K Rm X cc nL own ret fin cells slots nx ls (.int (x >>> (y &&& 31)) :: st) σ ex) : GE K Rm X cc nL own ret fin cells slots pc ls (.int y :: .int x :: st) σ ex := by
  obtain ⟨hd, rfl⟩ := hd
  exact fun C r σ' hex H locs lsA hw hS hl => lv_ishr C.1 C.2.1 hd (kk C r σ' hex H locs lsA hw hS hl)
theorem ge_land {x y : Int64} (hd : Dc cc pc .land 1 nx) (kk : GE K Rm X cc nL own ret fin cells slots nx ls (.long (x &&& y) :: st) σ ex) : GE K Rm X cc nL own ret fin cells slots pc ls (.long y :: .long x :: st) σ ex := by
  obtain ⟨hd, rfl⟩ := hd
  exact fun C r σ' hex H locs lsA hw hS hl => lv_land C.1 C.2.1 hd (kk C r σ' hex H locs lsA hw hS hl)
theorem ge_lor {x y : Int64} (hd : Dc cc pc .lor 1 nx) (kk : GE K Rm X cc nL own ret fin cells slots nx ls (.long (x ||| y) :: st) σ ex) : GE K Rm X cc nL own ret fin cells slots pc ls (.long y :: .long x :: st) σ ex := by
  obtain ⟨hd, rfl⟩ := hd
  exact fun C r σ' hex H locs lsA hw hS hl => lv_lor C.1 C.2.1 hd (kk C r σ' hex H locs lsA hw hS hl)
theorem ge_iushr {x y : Int32} (hd : Dc cc pc .iushr 1 nx) (kk : GE K Rm X cc nL own ret fin cells slots nx ls (.int (iushr x y) :: st) σ ex) : GE K Rm X cc nL own ret fin cells slots pc ls (.int y :: .int x :: st) σ ex := by
  obtain ⟨hd, rfl⟩ := hd
  exact fun C r σ' hex H locs lsA hw hS hl => lv_iushr (v := iushr x y) C.1 C.2.1 hd rfl (kk C r σ' hex H locs lsA hw hS hl)
theorem ge_ineg {x : Int32} (hd : Dc cc pc .ineg 1 nx) (kk : GE K Rm X cc nL own ret fin cells slots nx ls (.int (-x) :: st) σ ex) : GE K Rm X cc nL own ret fin cells slots pc ls (.int x :: st) σ ex := by
  obtain ⟨hd, rfl⟩ := hd
  exact fun C r σ' hex H locs lsA hw hS hl => lv_ineg C.1 C.2.1 hd (kk C r σ' hex H locs lsA hw hS hl)
theorem ge_i2l {x : Int32} (hd : Dc cc pc .i2l 1 nx) (kk : GE K Rm X cc nL own ret fin cells slots nx ls (.long x.toInt64 :: st) σ ex) : GE K Rm X cc nL own ret fin cells slots pc ls (.int x :: st) σ ex := by
  obtain ⟨hd, rfl⟩ := hd
  exact fun C r σ' hex H locs lsA hw hS hl => lv_i2l C.1 C.2.1 hd rfl (kk C r σ' hex H locs lsA hw hS hl)
theorem ge_l2i {x : Int64} (hd : Dc cc pc .l2i 1 nx) (kk : GE K Rm X cc nL own ret fin cells slots nx ls (.int x.toInt32 :: st) σ ex) : GE K Rm X cc nL own ret fin cells slots pc ls (.long x :: st) σ ex := by
  obtain ⟨hd, rfl⟩ := hd
  exact fun C r σ' hex H locs lsA hw hS hl => lv_l2i C.1 C.2.1 hd rfl (kk C r σ' hex H locs lsA hw hS hl)
theorem ge_lshl {x : Int64} {y : Int32} (hd : Dc cc pc .lshl 1 nx) (kk : GE K Rm X cc nL own ret fin cells slots nx ls (.long (x <<< (y.toInt64 &&& 63)) :: st) σ ex) : GE K Rm X cc nL own ret fin cells slots pc ls (.int y :: .long x :: st) σ ex := by
  obtain ⟨hd, rfl⟩ := hd
  exact fun C r σ' hex H locs lsA hw hS hl => lv_lshl C.1 C.2.1 hd rfl (kk C r σ' hex H locs lsA hw hS hl)
theorem ge_lshr {x : Int64} {y : Int32} (hd : Dc cc pc .lshr 1 nx) (kk : GE K Rm X cc nL own ret fin cells slots nx ls (.long (x >>> (y.toInt64 &&& 63)) :: st) σ ex) : GE K Rm X cc nL own ret fin cells slots pc ls (.int y :: .long x :: st) σ ex := by
  obtain ⟨hd, rfl⟩ := hd
  exact fun C r σ' hex H locs lsA hw hS hl => lv_lshr C.1 C.2.1 hd rfl (kk C r σ' hex H locs lsA hw hS hl)
theorem ge_lushr {x : Int64} {y : Int32} (hd : Dc cc pc .lushr 1 nx) (kk : GE K Rm X cc nL own ret fin cells slots nx ls (.long (lushr x y) :: st) σ ex) : GE K Rm X cc nL own ret fin cells slots pc ls (.int y :: .long x :: st) σ ex := by
  obtain ⟨hd, rfl⟩ := hd
  exact fun C r σ' hex H locs lsA hw hS hl => lv_lushr (v := lushr x y) C.1 C.2.1 hd rfl (kk C r σ' hex H locs lsA hw hS hl)
theorem ge_lcmp {x y : Int64} (hd : Dc cc pc .lcmp 1 nx) (kk : GE K Rm X cc nL own ret fin cells slots nx ls (.int (lg_cmp x y) :: st) σ ex) : GE K Rm X cc nL own ret fin cells slots pc ls (.long y :: .long x :: st) σ ex := by
  obtain ⟨hd, rfl⟩ := hd
  exact fun C r σ' hex H locs lsA hw hS hl => W.lcmp C.1 C.2.1 hd (kk C r σ' hex H locs lsA hw hS hl)
theorem ge_dup {v : Value} (hd : Dc cc pc .dup 1 nx) (hv : v.category = 1) (kk : GE K Rm X cc nL own ret fin cells slots nx ls (v :: v :: st) σ ex) : GE K Rm X cc nL own ret fin cells slots pc ls (v :: st) σ ex := by
  obtain ⟨hd, rfl⟩ := hd
  exact fun C r σ' hex H locs lsA hw hS hl => lv_dup C.1 C.2.1 hd hv (kk C r σ' hex H locs lsA hw hS hl)
theorem ge_pop {v : Value} (hd : Dc cc pc .pop 1 nx) (hv : v.category = 1) (kk : GE K Rm X cc nL own ret fin cells slots nx ls (st) σ ex) : GE K Rm X cc nL own ret fin cells slots pc ls (v :: st) σ ex := by
  obtain ⟨hd, rfl⟩ := hd
  exact fun C r σ' hex H locs lsA hw hS hl => lv_pop C.1 C.2.1 hd hv (kk C r σ' hex H locs lsA hw hS hl)
theorem ge_dup2 {v w : Value} (hd : Dc cc pc .dup2 1 nx) (hv : v.category = 1) (hw1 : w.category = 1) (kk : GE K Rm X cc nL own ret fin cells slots nx ls (v :: w :: v :: w :: st) σ ex) : GE K Rm X cc nL own ret fin cells slots pc ls (v :: w :: st) σ ex := by
  obtain ⟨hd, rfl⟩ := hd
  exact fun C r σ' hex H locs lsA hw hS hl => lv_dup2_11 C.1 C.2.1 hd hv hw1 (kk C r σ' hex H locs lsA hw hS hl)
theorem ge_dup_x1 {v w : Value} (hd : Dc cc pc .dup_x1 1 nx) (hv : v.category = 1) (hw1 : w.category = 1) (kk : GE K Rm X cc nL own ret fin cells slots nx ls (v :: w :: v :: st) σ ex) : GE K Rm X cc nL own ret fin cells slots pc ls (v :: w :: st) σ ex := by
  obtain ⟨hd, rfl⟩ := hd
  exact fun C r σ' hex H locs lsA hw hS hl => lv_dup_x1 C.1 C.2.1 hd hv hw1 (kk C r σ' hex H locs lsA hw hS hl)
theorem ge_goto {off : Int} {tgt : Nat} (hd : Dc cc pc (.goto off) 3 nx) (ht : (pc : Int) + off = (tgt : Int)) (kk : GE K Rm X cc nL own ret fin cells slots tgt ls st σ ex) : GE K Rm X cc nL own ret fin cells slots pc ls st σ ex := by
  obtain ⟨hd, rfl⟩ := hd
  exact fun C r σ' hex H locs lsA hw hS hl => lv_goto C.1 C.2.1 hd ht (kk C r σ' hex H locs lsA hw hS hl)
theorem ge_idiv {x y : Int32} (hd : Dc cc pc .idiv 1 nx) (kk : GE K Rm X cc nL own ret fin cells slots nx ls (.int (x / y) :: st) σ ex) : GE K Rm X cc nL own ret fin cells slots pc ls (.int y :: .int x :: st) σ (ck (y != 0) ex) := by
  obtain ⟨hd, rfl⟩ := hd
  intro C r σ' hex H locs lsA hw hS hl
  obtain ⟨hne, hex⟩ := ck_some hex
  exact lv_idiv C.1 C.2.1 hd (by simpa using hne) (kk C r σ' hex H locs lsA hw hS hl)
theorem ge_idivc {x y : Int32} (hd : Dc cc pc .idiv 1 nx) (hne : (y != 0) = true) (kk : GE K Rm X cc nL own ret fin cells slots nx ls (.int (x / y) :: st) σ ex) : GE K Rm X cc nL own ret fin cells slots pc ls (.int y :: .int x :: st) σ ex := by
  obtain ⟨hd, rfl⟩ := hd
  intro C r σ' hex H locs lsA hw hS hl
  exact lv_idiv C.1 C.2.1 hd (by simpa using hne) (kk C r σ' hex H locs lsA hw hS hl)
theorem ge_irem {x y : Int32} (hd : Dc cc pc .irem 1 nx) (kk : GE K Rm X cc nL own ret fin cells slots nx ls (.int (x % y) :: st) σ ex) : GE K Rm X cc nL own ret fin cells slots pc ls (.int y :: .int x :: st) σ (ck (y != 0) ex) := by
  obtain ⟨hd, rfl⟩ := hd
  intro C r σ' hex H locs lsA hw hS hl
  obtain ⟨hne, hex⟩ := ck_some hex
  exact lv_irem C.1 C.2.1 hd (by simpa using hne) (by rw [irem_eq_mod]; exact kk C r σ' hex H locs lsA hw hS hl)
theorem ge_iremc {x y : Int32} (hd : Dc cc pc .irem 1 nx) (hne : (y != 0) = true) (kk : GE K Rm X cc nL own ret fin cells slots nx ls (.int (x % y) :: st) σ ex) : GE K Rm X cc nL own ret fin cells slots pc ls (.int y :: .int x :: st) σ ex := by
  obtain ⟨hd, rfl⟩ := hd
  intro C r σ' hex H locs lsA hw hS hl
  exact lv_irem C.1 C.2.1 hd (by simpa using hne) (by rw [irem_eq_mod]; exact kk C r σ' hex H locs lsA hw hS hl)
theorem ge_icmp_eq {x y : Int32} {off : Int} {tgt : Nat} {e1 e2 : Option (R × Mem)} (hd : Dc cc pc (.if_icmp .eq off) 3 nx) (ht : (pc : Int) + off = (tgt : Int)) (k1 : GE K Rm X cc nL own ret fin cells slots tgt ls st σ e1) (k2 : GE K Rm X cc nL own ret fin cells slots nx ls st σ e2) : GE K Rm X cc nL own ret fin cells slots pc ls (.int y :: .int x :: st) σ (if x = y then e1 else e2) := by
  obtain ⟨hd, rfl⟩ := hd
  intro C r σ' hex H locs lsA hw hS hl
  by_cases h : x = y
  · rw [if_pos h] at hex
    exact lv_icmp_eq C.1 C.2.1 hd ht (fun _ => k1 C r σ' hex H locs lsA hw hS hl) (fun z => absurd h z)
  · rw [if_neg h] at hex
    exact lv_icmp_eq C.1 C.2.1 hd ht (fun z => absurd z h) (fun _ => k2 C r σ' hex H locs lsA hw hS hl)
theorem ge_if_eq {x : Int32} {off : Int} {tgt : Nat} {e1 e2 : Option (R × Mem)} (hd : Dc cc pc (.ifCond .eq off) 3 nx) (ht : (pc : Int) + off = (tgt : Int)) (k1 : GE K Rm X cc nL own ret fin cells slots tgt ls st σ e1) (k2 : GE K Rm X cc nL own ret fin cells slots nx ls st σ e2) : GE K Rm X cc nL own ret fin cells slots pc ls (.int x :: st) σ (if x = 0 then e1 else e2) := by
  obtain ⟨hd, rfl⟩ := hd
  intro C r σ' hex H locs lsA hw hS hl
  by_cases h : x = 0
  · rw [if_pos h] at hex
    exact lv_if_eq C.1 C.2.1 hd ht (fun _ => k1 C r σ' hex H locs lsA hw hS hl) (fun z => absurd h z)
  · rw [if_neg h] at hex
    exact lv_if_eq C.1 C.2.1 hd ht (fun z => absurd z h) (fun _ => k2 C r σ' hex H locs lsA hw hS hl)
theorem ge_icmp_ne {x y : Int32} {off : Int} {tgt : Nat} {e1 e2 : Option (R × Mem)} (hd : Dc cc pc (.if_icmp .ne off) 3 nx) (ht : (pc : Int) + off = (tgt : Int)) (k1 : GE K Rm X cc nL own ret fin cells slots nx ls st σ e1) (k2 : GE K Rm X cc nL own ret fin cells slots tgt ls st σ e2) : GE K Rm X cc nL own ret fin cells slots pc ls (.int y :: .int x :: st) σ (if x = y then e1 else e2) := by
  obtain ⟨hd, rfl⟩ := hd
  intro C r σ' hex H locs lsA hw hS hl
  by_cases h : x = y
  · rw [if_pos h] at hex
    exact lv_icmp_ne C.1 C.2.1 hd ht (fun z => absurd h z) (fun _ => k1 C r σ' hex H locs lsA hw hS hl)
  · rw [if_neg h] at hex
    exact lv_icmp_ne C.1 C.2.1 hd ht (fun _ => k2 C r σ' hex H locs lsA hw hS hl) (fun z => absurd z h)
theorem ge_if_ne {x : Int32} {off : Int} {tgt : Nat} {e1 e2 : Option (R × Mem)} (hd : Dc cc pc (.ifCond .ne off) 3 nx) (ht : (pc : Int) + off = (tgt : Int)) (k1 : GE K Rm X cc nL own ret fin cells slots nx ls st σ e1) (k2 : GE K Rm X cc nL own ret fin cells slots tgt ls st σ e2) : GE K Rm X cc nL own ret fin cells slots pc ls (.int x :: st) σ (if x = 0 then e1 else e2) := by
  obtain ⟨hd, rfl⟩ := hd
  intro C r σ' hex H locs lsA hw hS hl
  by_cases h : x = 0
  · rw [if_pos h] at hex
    exact lv_if_ne C.1 C.2.1 hd ht (fun z => absurd h z) (fun _ => k1 C r σ' hex H locs lsA hw hS hl)
  · rw [if_neg h] at hex
    exact lv_if_ne C.1 C.2.1 hd ht (fun _ => k2 C r σ' hex H locs lsA hw hS hl) (fun z => absurd z h)
theorem ge_icmp_lt {x y : Int32} {off : Int} {tgt : Nat} {e1 e2 : Option (R × Mem)} (hd : Dc cc pc (.if_icmp .lt off) 3 nx) (ht : (pc : Int) + off = (tgt : Int)) (k1 : GE K Rm X cc nL own ret fin cells slots tgt ls st σ e1) (k2 : GE K Rm X cc nL own ret fin cells slots nx ls st σ e2) : GE K Rm X cc nL own ret fin cells slots pc ls (.int y :: .int x :: st) σ (if x < y then e1 else e2) := by
  obtain ⟨hd, rfl⟩ := hd
  intro C r σ' hex H locs lsA hw hS hl
  by_cases h : x < y
  · rw [if_pos h] at hex
    exact lv_icmp_lt C.1 C.2.1 hd ht (fun _ => k1 C r σ' hex H locs lsA hw hS hl) (fun z => absurd h z)
  · rw [if_neg h] at hex
    exact lv_icmp_lt C.1 C.2.1 hd ht (fun z => absurd z h) (fun _ => k2 C r σ' hex H locs lsA hw hS hl)
theorem ge_if_lt {x : Int32} {off : Int} {tgt : Nat} {e1 e2 : Option (R × Mem)} (hd : Dc cc pc (.ifCond .lt off) 3 nx) (ht : (pc : Int) + off = (tgt : Int)) (k1 : GE K Rm X cc nL own ret fin cells slots tgt ls st σ e1) (k2 : GE K Rm X cc nL own ret fin cells slots nx ls st σ e2) : GE K Rm X cc nL own ret fin cells slots pc ls (.int x :: st) σ (if x < 0 then e1 else e2) := by
  obtain ⟨hd, rfl⟩ := hd
  intro C r σ' hex H locs lsA hw hS hl
  by_cases h : x < 0
  · rw [if_pos h] at hex
    exact lv_if_lt C.1 C.2.1 hd ht (fun _ => k1 C r σ' hex H locs lsA hw hS hl) (fun z => absurd h z)
  · rw [if_neg h] at hex
    exact lv_if_lt C.1 C.2.1 hd ht (fun z => absurd z h) (fun _ => k2 C r σ' hex H locs lsA hw hS hl)
theorem ge_icmp_ge {x y : Int32} {off : Int} {tgt : Nat} {e1 e2 : Option (R × Mem)} (hd : Dc cc pc (.if_icmp .ge off) 3 nx) (ht : (pc : Int) + off = (tgt : Int)) (k1 : GE K Rm X cc nL own ret fin cells slots nx ls st σ e1) (k2 : GE K Rm X cc nL own ret fin cells slots tgt ls st σ e2) : GE K Rm X cc nL own ret fin cells slots pc ls (.int y :: .int x :: st) σ (if x < y then e1 else e2) := by
  obtain ⟨hd, rfl⟩ := hd
  intro C r σ' hex H locs lsA hw hS hl
  by_cases h : x < y
  · rw [if_pos h] at hex
    exact lv_icmp_ge C.1 C.2.1 hd ht (fun z => absurd h (Int32.not_lt.mpr z)) (fun _ => k1 C r σ' hex H locs lsA hw hS hl)
  · rw [if_neg h] at hex
    exact lv_icmp_ge C.1 C.2.1 hd ht (fun _ => k2 C r σ' hex H locs lsA hw hS hl) (fun z => absurd (Int32.not_lt.mp h) z)
theorem ge_if_ge {x : Int32} {off : Int} {tgt : Nat} {e1 e2 : Option (R × Mem)} (hd : Dc cc pc (.ifCond .ge off) 3 nx) (ht : (pc : Int) + off = (tgt : Int)) (k1 : GE K Rm X cc nL own ret fin cells slots nx ls st σ e1) (k2 : GE K Rm X cc nL own ret fin cells slots tgt ls st σ e2) : GE K Rm X cc nL own ret fin cells slots pc ls (.int x :: st) σ (if x < 0 then e1 else e2) := by
  obtain ⟨hd, rfl⟩ := hd
  intro C r σ' hex H locs lsA hw hS hl
  by_cases h : x < 0
  · rw [if_pos h] at hex
    exact lv_if_ge C.1 C.2.1 hd ht (fun z => absurd h (Int32.not_lt.mpr z)) (fun _ => k1 C r σ' hex H locs lsA hw hS hl)
  · rw [if_neg h] at hex
    exact lv_if_ge C.1 C.2.1 hd ht (fun _ => k2 C r σ' hex H locs lsA hw hS hl) (fun z => absurd (Int32.not_lt.mp h) z)
theorem ge_icmp_gt {x y : Int32} {off : Int} {tgt : Nat} {e1 e2 : Option (R × Mem)} (hd : Dc cc pc (.if_icmp .gt off) 3 nx) (ht : (pc : Int) + off = (tgt : Int)) (k1 : GE K Rm X cc nL own ret fin cells slots tgt ls st σ e1) (k2 : GE K Rm X cc nL own ret fin cells slots nx ls st σ e2) : GE K Rm X cc nL own ret fin cells slots pc ls (.int y :: .int x :: st) σ (if y < x then e1 else e2) := by
  obtain ⟨hd, rfl⟩ := hd
  intro C r σ' hex H locs lsA hw hS hl
  by_cases h : y < x
  · rw [if_pos h] at hex
    exact lv_icmp_gt C.1 C.2.1 hd ht (fun _ => k1 C r σ' hex H locs lsA hw hS hl) (fun z => absurd h z)
  · rw [if_neg h] at hex
    exact lv_icmp_gt C.1 C.2.1 hd ht (fun z => absurd z h) (fun _ => k2 C r σ' hex H locs lsA hw hS hl)
theorem ge_if_gt {x : Int32} {off : Int} {tgt : Nat} {e1 e2 : Option (R × Mem)} (hd : Dc cc pc (.ifCond .gt off) 3 nx) (ht : (pc : Int) + off = (tgt : Int)) (k1 : GE K Rm X cc nL own ret fin cells slots tgt ls st σ e1) (k2 : GE K Rm X cc nL own ret fin cells slots nx ls st σ e2) : GE K Rm X cc nL own ret fin cells slots pc ls (.int x :: st) σ (if 0 < x then e1 else e2) := by
  obtain ⟨hd, rfl⟩ := hd
  intro C r σ' hex H locs lsA hw hS hl
  by_cases h : 0 < x
  · rw [if_pos h] at hex
    exact lv_if_gt C.1 C.2.1 hd ht (fun _ => k1 C r σ' hex H locs lsA hw hS hl) (fun z => absurd h z)
  · rw [if_neg h] at hex
    exact lv_if_gt C.1 C.2.1 hd ht (fun z => absurd z h) (fun _ => k2 C r σ' hex H locs lsA hw hS hl)
theorem ge_icmp_le {x y : Int32} {off : Int} {tgt : Nat} {e1 e2 : Option (R × Mem)} (hd : Dc cc pc (.if_icmp .le off) 3 nx) (ht : (pc : Int) + off = (tgt : Int)) (k1 : GE K Rm X cc nL own ret fin cells slots nx ls st σ e1) (k2 : GE K Rm X cc nL own ret fin cells slots tgt ls st σ e2) : GE K Rm X cc nL own ret fin cells slots pc ls (.int y :: .int x :: st) σ (if y < x then e1 else e2) := by
  obtain ⟨hd, rfl⟩ := hd
  intro C r σ' hex H locs lsA hw hS hl
  by_cases h : y < x
  · rw [if_pos h] at hex
    exact lv_icmp_le C.1 C.2.1 hd ht (fun z => absurd h (Int32.not_lt.mpr z)) (fun _ => k1 C r σ' hex H locs lsA hw hS hl)
  · rw [if_neg h] at hex
    exact lv_icmp_le C.1 C.2.1 hd ht (fun _ => k2 C r σ' hex H locs lsA hw hS hl) (fun z => absurd (Int32.not_lt.mp h) z)
theorem ge_if_le {x : Int32} {off : Int} {tgt : Nat} {e1 e2 : Option (R × Mem)} (hd : Dc cc pc (.ifCond .le off) 3 nx) (ht : (pc : Int) + off = (tgt : Int)) (k1 : GE K Rm X cc nL own ret fin cells slots nx ls st σ e1) (k2 : GE K Rm X cc nL own ret fin cells slots tgt ls st σ e2) : GE K Rm X cc nL own ret fin cells slots pc ls (.int x :: st) σ (if 0 < x then e1 else e2) := by
  obtain ⟨hd, rfl⟩ := hd
  intro C r σ' hex H locs lsA hw hS hl
  by_cases h : 0 < x
  · rw [if_pos h] at hex
    exact lv_if_le C.1 C.2.1 hd ht (fun z => absurd h (Int32.not_lt.mpr z)) (fun _ => k1 C r σ' hex H locs lsA hw hS hl)
  · rw [if_neg h] at hex
    exact lv_if_le C.1 C.2.1 hd ht (fun _ => k2 C r σ' hex H locs lsA hw hS hl) (fun z => absurd (Int32.not_lt.mp h) z)
theorem ge_ite {c : Prop} [Decidable c] {e1 e2 : Option (R × Mem)} (k1 : c → GE K Rm X cc nL own ret fin cells slots pc ls st σ e1) (k2 : ¬ c → GE K Rm X cc nL own ret fin cells slots pc ls st σ e2) : GE K Rm X cc nL own ret fin cells slots pc ls st σ (if c then e1 else e2) := by
  by_cases h : c
  · rw [if_pos h]; exact k1 h
  · rw [if_neg h]; exact k2 h
theorem ge_tsw {dflt lo hi : Int} {offs : Array Int} {len : Nat} {x v : Int32} {off : Int} {tgt : Nat} (hd : Dc cc pc (.tableswitch dflt lo hi offs) len nx) (hx : x = v) (h1 : ¬ v.toInt < lo) (h2 : ¬ hi < v.toInt) (ho : offs[(v.toInt - lo).toNat]? = some off) (ht : (pc : Int) + off = (tgt : Int)) (kk : GE K Rm X cc nL own ret fin cells slots tgt ls st σ ex) : GE K Rm X cc nL own ret fin cells slots pc ls (.int x :: st) σ ex := by
  subst hx
  exact fun C r σ' hex H locs lsA hw hS hl => lv_tableIn C.1 C.2.1 hd.1 h1 h2 ho ht (kk C r σ' hex H locs lsA hw hS hl)
theorem ge_tswd {dflt lo hi : Int} {offs : Array Int} {len : Nat} {x : Int32} {tgt : Nat} (hd : Dc cc pc (.tableswitch dflt lo hi offs) len nx) (hx : x.toInt < lo ∨ hi < x.toInt) (ht : (pc : Int) + dflt = (tgt : Int)) (kk : GE K Rm X cc nL own ret fin cells slots tgt ls st σ ex) : GE K Rm X cc nL own ret fin cells slots pc ls (.int x :: st) σ ex :=
  fun C r σ' hex H locs lsA hw hS hl => lv_tableOut C.1 C.2.1 hd.1 hx ht (kk C r σ' hex H locs lsA hw hS hl)
theorem ge_lsw {dflt : Int} {ps : Array (Int × Int)} {len : Nat} {x : Int32} {off : Int} {tgt : Nat} (hd : Dc cc pc (.lookupswitch dflt ps) len nx) (hp : (ps.toList.zip (ps.toList.drop 1)).all (fun (a, next) => a.1 < next.1) = true) (ho : Op.lookupswitch.offset ps.toList dflt x.toInt = off) (ht : (pc : Int) + off = (tgt : Int)) (kk : GE K Rm X cc nL own ret fin cells slots tgt ls st σ ex) : GE K Rm X cc nL own ret fin cells slots pc ls (.int x :: st) σ ex :=
  fun C r σ' hex H locs lsA hw hS hl => lv_lookup C.1 C.2.1 hd.1 hp ho ht (kk C r σ' hex H locs lsA hw hS hl)
/-! ===== rows of fields, arrays, statics, calls ===== -/
/-- the tables' words of a field by its place in a class's pool -/
def FL (own : String) (idx ci j : Nat) : Prop := ∃ (C : String) (T : u_T) (N : Nat), vwCl[ci]? = some (C, T, N) ∧ N = nfo ci ∧ j < N ∧ (T j).1 = C ∧ (∀ w ∈ u_ws C T N, w ∈ TB) ∧ (Cond.fieldLink own idx C (T j).2.1 (T j).2.2.1 ∈ TB ∨ ∃ host, Cond.fieldLinkNest own idx C (T j).2.1 (T j).2.2.1 host ∈ TB)
/-- .. of one that may be written -/
def FP (own : String) (idx ci j : Nat) (ty : FieldType) : Prop := ∃ (C : String) (T : u_T) (N : Nat) (ty0 : Nat → FieldType), vwCl[ci]? = some (C, T, N) ∧ N = nfo ci ∧ j < N ∧ (T j).1 = C ∧ (∀ w ∈ u_ws C T N, w ∈ TB) ∧ (Cond.fieldLink own idx C (T j).2.1 (T j).2.2.1 ∈ TB ∨ ∃ host, Cond.fieldLinkNest own idx C (T j).2.1 (T j).2.2.1 host ∈ TB) ∧ (∀ k, k < N → parseFieldDescriptor (T k).2.2.1 = some (ty0 k)) ∧ (∀ a, a < N → ∀ b, b < N → a ≠ b → (T a).2.1 ≠ (T b).2.1) ∧ (T j).2.2.2 = false ∧ parseFieldDescriptor (T j).2.2.1 = some ty
def Is (ci k : Nat) : Prop := k < 385 ∧ kd k = ci
theorem fvs_get {X : Xt} {k j N : Nat} {f : Nat → Int32} (h : j < N) : ((List.range N).map (fvs X k f))[j]? = some (fvs X k f j) := by
  rw [List.getElem?_map, List.getElem?_range h]; rfl
theorem fvs_set {X : Xt} {k j N : Nat} {f : Nat → Int32} {v : Int32} (h : j < N) (hr : rs k j = none) : ((List.range N).map (fvs X k f)).set j (.int v) = (List.range N).map (fvs X k (upd f j v)) := by
  apply List.ext_getElem?
  intro i
  by_cases hi : i < N
  · by_cases e : j = i
    · subst e
      rw [List.getElem?_set_self (by simpa using h), fvs_get h]
      simp [fvs, hr, upd]
    · rw [List.getElem?_set_ne e, fvs_get hi, fvs_get hi]
      have : ¬ i = j := fun z => e z.symm
      simp [fvs, upd, this]
  · rw [List.getElem?_eq_none (by simpa using hi), List.getElem?_eq_none (by simpa using hi)]
theorem ge_getV {idx ci j k : Nat} {v : Value} (hd : Dc cc pc (.getfield idx) 3 nx) (hf : FL own idx ci j) (hk : k < 385) (hc : kd k = ci) (hci : ci < 12) (hv : fvs X k (σ k) j = v) (kk : GE K Rm X cc nL own ret fin cells slots nx ls (v :: st) σ ex) : GE K Rm X cc nL own ret fin cells slots pc ls (.ref (xad X k) :: st) σ ex := by
  obtain ⟨hd, rfl⟩ := hd
  obtain ⟨Cn, T, N, h1, h2, h3, h4, h5, h6⟩ := hf
  intro C r σ' hex H locs lsA hw hS hl
  have hP := hw.at (Nat.lt_of_lt_of_le hk C.2.2.2.2.2.2.1.1)
  rw [cel_obj hc hci] at hP
  have hget : ((List.range (nfo ci)).map (fvs X k (σ k)))[j]? = some v := by rw [fvs_get (h2 ▸ h3), hv]
  rcases h6 with h6 | ⟨host, h6⟩
  · exact va_get (D := xD X) (ci := ci) (v := v) (C := Cn) (T := T) (N := N) C.1 C.2.1 C.2.2.2.2.1 h5 C.2.2.2.1 C.2.2.2.2.2.1 hP 0 rfl h1 j h3 (C.2.2.2.2.1 _ h6) (fun _ h9 => h4 ▸ h9) hget hd (kk C r σ' hex H locs lsA hw hS hl)
  · exact va_getN (D := xD X) (ci := ci) (v := v) (C := Cn) (T := T) (N := N) C.1 C.2.1 C.2.2.2.2.1 h5 C.2.2.2.1 C.2.2.2.2.2.1 hP 0 rfl h1 j h3 (C.2.2.2.2.1 _ h6) (fun _ h9 => h4 ▸ h9) hget hd (kk C r σ' hex H locs lsA hw hS hl)
theorem fvs_int {X : Xt} {k j ci : Nat} {f : Nat → Int32} (hc : kd k = ci) (h : rsk ci k j = none) : fvs X k f j = .int (f j) := by
  unfold fvs rs; rw [hc, h]
theorem fvs_ref {X : Xt} {k j ci i : Nat} {f : Nat → Int32} (hc : kd k = ci) (h : rsk ci k j = some i) : fvs X k f j = .ref (xad X i) := by
  unfold fvs rs; rw [hc, h]
/-- an int field is read; a field that refers to a cell is read -/
theorem ge_getI {idx ci j k : Nat} (hd : Dc cc pc (.getfield idx) 3 nx) (hf : FL own idx ci j) (hk : Is ci k) (hci : ci < 12) (hr : rsk ci k j = none) (kk : GE K Rm X cc nL own ret fin cells slots nx ls (.int (σ k j) :: st) σ ex) : GE K Rm X cc nL own ret fin cells slots pc ls (.ref (xad X k) :: st) σ ex :=
  ge_getV hd hf hk.1 hk.2 hci (fvs_int hk.2 hr) kk
theorem ge_getR {idx ci j k i : Nat} (hd : Dc cc pc (.getfield idx) 3 nx) (hf : FL own idx ci j) (hk : Is ci k) (hci : ci < 12) (hr : rsk ci k j = some i) (kk : GE K Rm X cc nL own ret fin cells slots nx ls (.ref (xad X i) :: st) σ ex) : GE K Rm X cc nL own ret fin cells slots pc ls (.ref (xad X k) :: st) σ ex :=
  ge_getV hd hf hk.1 hk.2 hci (fvs_ref hk.2 hr) kk
/-- an int field is written: the memory gets a name -/
theorem ge_putT {idx ci j k : Nat} {v : Int32} {ty : FieldType} {f : Mem → Option (R × Mem)} (hd : Dc cc pc (.putfield idx) 3 nx) (hf : FP own idx ci j ty) (hk : Is ci k) (hci : ci < 12) (hr : rsk ci k j = none) (hn : narrow ty (.int v) = .int v) (hfit : fits ty (.int v) = true) (kk : ∀ σ1, GE K Rm X cc nL own ret fin cells slots nx ls st σ1 (f σ1)) : GE K Rm X cc nL own ret fin cells slots pc ls (.int v :: .ref (xad X k) :: st) σ (lt (sto σ k j v) f) := by
  obtain ⟨hd, rfl⟩ := hd
  obtain ⟨Cn, T, N, ty0, h1, h2, h3, h4, h5, h6, h7, h8, h9, h10⟩ := hf
  intro C r σ' hex H locs lsA hw hS hl
  have hkn := Nat.lt_of_lt_of_le hk.1 C.2.2.2.2.2.2.1.1
  have hP := hw.at hkn
  have hA : xA X (xad X k) := C.2.2.2.2.2.2.1.2.1 k hkn
  rw [cel_obj hk.2 hci] at hP
  have hl1 : j < ((List.range (nfo ci)).map (fvs X k (σ k))).length := by simp; omega
  have hrs : rs k j = none := by unfold rs; rw [hk.2]; exact hr
  have hap := va_apart (own := own) C.2.2.2.2.1 h5 ty0 h7 h8 C.2.2.2.2.2.1 h1
  obtain ⟨r0, g1, cell, q1, q2, q3, q4⟩ := hP 0 _ rfl
  have hr0 : r0 = (Cn, T, N) := Option.some.inj (g1.symm.trans h1)
  subst hr0
  obtain ⟨hSl, hfc, kC, hkC, hkind⟩ := C.2.2.2.2.2.1.1 ci _ h1
  obtain ⟨cf, kf, fi, fd, hi, hsl⟩ := hSl j h3
  have hlay := C.2.2.2.2.1 _ (h5 _ (u_in_lay h3))
  unfold u_lay at hlay
  rw [if_neg (by rw [h9]; decide)] at hlay
  have hst := (u_facts hfc hkC (u_lays C.2.2.2.2.1 h5 h3) hi).1
  have hsd := u_store hfc hkC hkind hlay hi h10 hn hfit
  have hsame : (ks K).fieldFound? Cn (T j).2.1 (T j).2.2.1 = some (cf, kf, fi, fd) := h4 ▸ hi
  have fin1 : ∀ H' : Heap, H'[xad X k]? = some (cell.setSlot fd.slot (.int v)) → H'.size = H.size → (∀ q, q ≠ xad X k → H'[q]? = H[q]?) → W (kp K) (kl K) (ke K) Rm (ks K) (km K) (ka K) (kb K) (kme K) (kc K) H' (locs ++ [⟨xad X k, fd.slot⟩]) cells slots (fin r σ') (F0 (km K) (pc + 3) lsA st) := by
    intro H1 e1 e2 e3
    refine kk (sto σ k j v) C r σ' hex H1 _ lsA ?_ (hS.put e2 e3 hA) hl
    refine hw.set C.2.2.2.2.2.2.1 hkn ?_ (fun k' h => sto_cell h) e3
    rw [hsl] at e1
    have hat : va_at (xD X) vwCl (xad X k, .inr (ci, ((List.range (nfo ci)).map (fvs X k (σ k))).set j (.int v))) H1 := ⟨_, h1, t_OB.to (V := updV (vp_V ((List.range (nfo ci)).map (fvs X k (σ k)))) j (.int v)) ⟨_, e1, q2, q3, t_set q4 hap h3 (.int v)⟩ (fun j' _ => vp_updV_set hl1 (.int v) j')⟩
    rw [fvs_set (h2 ▸ h3) hrs] at hat
    rw [cel_obj hk.2 hci, sto_row]
    exact hat
  rcases h6 with h6 | ⟨host, h6⟩
  · exact W.putK C.1 C.2.1 (f := fd) ⟨C.2.2.2.1, C.2.2.2.2.1 _ h6, ⟨_, _, _, hsame⟩, hst⟩ (by rw [q2]; exact hsd) q1 q3 (by rw [hsl]; exact k2_hasslot (q4 j h3)) rfl rfl hd fin1
  · exact va_WputK C.1 C.2.1 (f := fd) C.2.2.2.1 (C.2.2.2.2.1 _ h6) hsame hst (by rw [q2]; exact hsd) q1 q3 (by rw [hsl]; exact k2_hasslot (q4 j h3)) rfl rfl hd fin1
theorem ge_put {idx ci j k : Nat} {v : Int32} {f : Mem → Option (R × Mem)} (hd : Dc cc pc (.putfield idx) 3 nx) (hf : FP own idx ci j .int) (hk : Is ci k) (hci : ci < 12) (hr : rsk ci k j = none) (kk : ∀ σ1, GE K Rm X cc nL own ret fin cells slots nx ls st σ1 (f σ1)) : GE K Rm X cc nL own ret fin cells slots pc ls (.int v :: .ref (xad X k) :: st) σ (lt (sto σ k j v) f) :=
  ge_putT hd hf hk hci hr rfl rfl kk
theorem ge_putz {idx ci j k : Nat} {v : Int32} {f : Mem → Option (R × Mem)} (hv : isB v = true) (hd : Dc cc pc (.putfield idx) 3 nx) (hf : FP own idx ci j .boolean) (hk : Is ci k) (hci : ci < 12) (hr : rsk ci k j = none) (kk : ∀ σ1, GE K Rm X cc nL own ret fin cells slots nx ls st σ1 (f σ1)) : GE K Rm X cc nL own ret fin cells slots pc ls (.int v :: .ref (xad X k) :: st) σ (lt (sto σ k j v) f) := by
  refine ge_putT hd hf hk hci hr (isB_nar hv) ?_ kk
  simp only [isB, Bool.or_eq_true, beq_iff_eq] at hv
  rcases hv with rfl | rfl <;> rfl
/-- arrays of ints -/
theorem ge_alen {k : Nat} {v : Int32} (hd : Dc cc pc .arraylength 1 nx) (hk : Is 12 k) (hv : Int32.ofNat (al k) = v) (kk : GE K Rm X cc nL own ret fin cells slots nx ls (.int v :: st) σ ex) : GE K Rm X cc nL own ret fin cells slots pc ls (.ref (xad X k) :: st) σ ex := by
  obtain ⟨hd, rfl⟩ := hd
  intro C r σ' hex H locs lsA hw hS hl
  have hP := hw.at (Nat.lt_of_lt_of_le hk.1 C.2.2.2.2.2.2.1.1)
  rw [cel_int hk.2] at hP
  exact va_alen (D := xD X) C.1 C.2.1 C.2.2.2.2.2.1 hP 0 0 rfl rfl hv hd (kk C r σ' hex H locs lsA hw hS hl)
theorem ge_ialdX {k : Nat} {i : Int32} (hk : k < xn X) (hkd : kd k = 12) (hd : Dc cc pc .iaload 1 nx) (kk : GE K Rm X cc nL own ret fin cells slots nx ls (.int (σ k (ix i)) :: st) σ ex) : GE K Rm X cc nL own ret fin cells slots pc ls (.int i :: .ref (xad X k) :: st) σ (ck (inb i (al k)) ex) := by
  obtain ⟨hd, rfl⟩ := hd
  intro C r σ' hex H locs lsA hw hS hl
  obtain ⟨hi, hex⟩ := ck_some hex
  have hP := hw.at hk
  rw [cel_int hkd] at hP
  exact va_iald (D := xD X) C.1 C.2.1 C.2.2.2.2.2.1 hP 0 0 rfl rfl (inb_in hi) hd (kk C r σ' hex H locs lsA hw hS hl)
theorem ge_iald {k n : Nat} {i : Int32} (hd : Dc cc pc .iaload 1 nx) (hk : Is 12 k) (hn : al k = n) (kk : GE K Rm X cc nL own ret fin cells slots nx ls (.int (σ k (ix i)) :: st) σ ex) : GE K Rm X cc nL own ret fin cells slots pc ls (.int i :: .ref (xad X k) :: st) σ (ck (inb i n) ex) := by
  subst hn
  exact fun C => ge_ialdX (Nat.lt_of_lt_of_le hk.1 C.2.2.2.2.2.2.1.1) hk.2 hd kk C
theorem ge_iastX {k : Nat} {i v : Int32} {f : Mem → Option (R × Mem)} (hk : k < xn X) (hkd : kd k = 12) (hd : Dc cc pc .iastore 1 nx) (kk : ∀ σ1, GE K Rm X cc nL own ret fin cells slots nx ls st σ1 (f σ1)) : GE K Rm X cc nL own ret fin cells slots pc ls (.int v :: .int i :: .ref (xad X k) :: st) σ (ck (inb i (al k)) (lt (sto σ k (ix i) v) f)) := by
  obtain ⟨hd, rfl⟩ := hd
  intro C r σ' hex H locs lsA hw hS hl
  obtain ⟨hi, hex⟩ := ck_some hex
  have hP := hw.at hk
  have hA : xA X (xad X k) := C.2.2.2.2.2.2.1.2.1 k hk
  rw [cel_int hkd] at hP
  refine W.iast C.1 C.2.1 (hP 0 _ rfl) ((C.2.2.2.2.2.1.2 0 _ rfl).1 (al k) (fun j => .int (σ k j))) (fun q => by cases q) (by show ¬ (i < 0 ∨ (arrV _ _ _).slots.size ≤ _); rw [arrV_size]; exact inb_in hi) rfl rfl hd fun H1 e z oq => ?_
  refine kk (sto σ k (ix i) v) C r σ' hex H1 _ lsA ?_ (hS.put z oq hA) hl
  refine hw.set C.2.2.2.2.2.2.1 hk ?_ (fun k' h => sto_cell h) oq
  rw [cel_int hkd, sto_row]
  show H1[_]? = some (vp_cell _ _)
  rw [e, vp_cell_i, vp_cell_i, arrV_store]
  congr 2
  funext q
  by_cases hq : q = i.toNatClampNeg
  · subst hq
    simp [updV, upd]
  · simp [updV, upd, hq]
theorem ge_iast {k n : Nat} {i v : Int32} {f : Mem → Option (R × Mem)} (hd : Dc cc pc .iastore 1 nx) (hk : Is 12 k) (hn : al k = n) (kk : ∀ σ1, GE K Rm X cc nL own ret fin cells slots nx ls st σ1 (f σ1)) : GE K Rm X cc nL own ret fin cells slots pc ls (.int v :: .int i :: .ref (xad X k) :: st) σ (ck (inb i n) (lt (sto σ k (ix i) v) f)) := by
  subst hn
  exact fun C => ge_iastX (Nat.lt_of_lt_of_le hk.1 C.2.2.2.2.2.2.1.1) hk.2 hd kk C
/-- arrays of objects: what they refer to stands fast -/
theorem ge_aald {k t n : Nat} {i : Int32} {Cn : String} {g : Nat → Nat} (hd : Dc cc pc .aaload 1 nx) (hk : Is t k) (ht : 12 < t) (htt : (tyX X)[t - 12]? = some (xac X (t - 12), .object Cn)) (hn : al k = n) (hg : ∀ j, j < n → rsk t k j = some (g j)) (kk : inb i n = true → GE K Rm X cc nL own ret fin cells slots nx ls (.ref (xad X (g (ix i))) :: st) σ ex) : GE K Rm X cc nL own ret fin cells slots pc ls (.int i :: .ref (xad X k) :: st) σ (ck (inb i n) ex) := by
  obtain ⟨hd, rfl⟩ := hd
  subst hn
  intro C r σ' hex H locs lsA hw hS hl
  obtain ⟨hi, hex⟩ := ck_some hex
  have hP := hw.at (Nat.lt_of_lt_of_le hk.1 C.2.2.2.2.2.2.1.1)
  rw [cel_ref hk.2 ht] at hP
  have hlt : ix i < al k := by
    have h := hi
    simp only [inb, Bool.and_eq_true, decide_eq_true_eq] at h
    exact h.2
  have hv : va_rf (((rs k (ix i)).map (xad X))) = .ref (xad X (g (ix i))) := by
    unfold rs; rw [hk.2, hg _ hlt]; rfl
  refine va_aldq (D := xD X) C.1 C.2.1 C.2.2.2.2.2.1 hP 0 (t - 12) rfl htt (inb_in hi) hd ?_
  rw [hv]
  exact kk hi C r σ' hex H locs lsA hw hS hl
end ROWS
