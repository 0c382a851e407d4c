/-! ===== constructors: cells that come one behind the other ===== -/
def fvs0 (X : Xt) (k : Nat) (f : Nat → Int32) (j : Nat) : Value := match rs k j with
  | some i => if f j = 1 then .ref (xad X i) else .null
  | none => .int (f j)
def cel0 (X : Xt) (k : Nat) (f : Nat → Int32) : va_E :=
  if kd k < 12 then .inr (kd k, (List.range (nfo (kd k))).map (fvs0 X k f))
  else .inl (xac X (kd k - 12), al k, if kd k = 12 then .inl f else .inr (.inr (.inr (.inr (fun j => if f j = 1 then (rs k j).map (xad X) else none)))))
def World0 (X : Xt) (τ : St) (H : Heap) : Prop := H.size = xB X + τ.1 ∧ ∀ k, k < τ.1 → va_at (xD X) vwCl (xad X k, cel0 X k (τ.2 k)) H
def XokI (X : Xt) : Prop := ∀ k, xad X k = xB X + k
def AOs (U : State) : Prop := va_AO RX1 U ∧ va_AO RX2 U ∧ va_AO RX3 U
def Wd0 (X : Xt) (τ : St) (U : State) : Prop := World0 X τ U.heap ∧ va_K (xD X) vwCl (tyX X) U ∧ XokI X ∧ Sta X U ∧ AOs U
def CxI (K : Kt) (X : Xt) (cc : ByteArray) (nL : Nat) (own : String) (ret : Option FieldType) : Prop :=
  (kp K).tables.exec = Jvm.exec ∧ (kc K).code = cc ∧ (kc K).maxLocals = nL ∧ (ks K).vm.findClass own = some (km K).cls ∧ (∀ w ∈ TB, w.before (ka K) (ks K) = true) ∧ va_K (xD X) vwCl (tyX X) (ks K) ∧ XokI X ∧ (Sta X (ks K) ∧ AOs (ks K) ∧ xB X ≤ (ks K).heap.size) ∧ (kme K).sig.returnType = ret ∧ (kme K).locks = false
def GI {R : Type} (K : Kt) (Rm : Room) (X : Xt) (cc : ByteArray) (nL : Nat) (own : String) (ret : Option FieldType) (fin : R → St → State → Prop) (cells slots pc : Nat) (ls : List (Nat × Value)) (st : List Value) (σ : St) (ex : Option (R × St)) : Prop :=
  CxI K X cc nL own ret → ∀ r σ', ex = some (r, σ') → ∀ (H : Heap) (locs : List Loc) (lsA : Array Slot), World0 X σ H → va_S (xA X) (ks K).heap H locs → lv_has lsA nL ls →
    W (kp K) (kl K) (ke K) Rm (ks K) (km K) (ka K) (kb K) (kme K) (kc K) H locs cells slots (fin r σ') (F0 (km K) pc lsA st)
def QsI (X : Xt) (_ : Unit) (σ' : St) : Array Value → State → Outcome → State → Prop := fun _ st o t => o = .returned none ∧ Wd0 X σ' t ∧ va_F (xA X) st t
def finI (K : Kt) (X : Xt) (mc ms : Nat) (r : Unit) (σ' : St) : State → Prop := MQ (kb K) (QsI X r σ') (ka K) (ks K) mc ms (xA X)
/-- a constructor's contract -/
def CtI (l : Launch) (y : MethodName) (cc : ByteArray) (nL : Nat) (rm : Room) (X : Xt) (av : List Value) (σ : St) (fe : Option (Unit × St)) : Prop :=
  ∀ r σ', fe = some (r, σ') → Met l y (wsQ y cc nL none) rm (va_Pc av (Wd0 X σ)) (QsI X r σ') rm.cells rm.slots (xA X)
theorem clS_some {α β : Type} {x : Option (α × St)} {f : α → St → Option β} {r : β} (h : clS x f = some r) : ∃ a m, x = some (a, m) ∧ f a m = some r := by
  cases x with
  | none => cases h
  | some q => exact ⟨q.1, q.2, rfl, h⟩
theorem AOs.moved {u U : State} (hvm : u.vm.Alike U.vm) (h : AOs u) : AOs U := ⟨h.1.moved hvm, h.2.1.moved hvm, h.2.2.moved hvm⟩
theorem Wd0.calling {X : Xt} {σ : St} {U : State} {g : JFrame} {mk : MethodId} {a : Array Value} (h : Wd0 X σ U) : Wd0 X σ (U.calling g mk a) :=
  ⟨h.1, va_K.moved (u := U) (U := U.calling g mk a) (Vm.Alike.refl U.vm) h.2.1, h.2.2.1, h.2.2.2.1.step (t := U.calling g mk a) (Vm.Alike.refl U.vm) ⟨Nat.le_refl _, fun _ _ _ => rfl⟩, h.2.2.2.2.moved (u := U) (U := U.calling g mk a) (Vm.Alike.refl U.vm)⟩
theorem cel0_obj {X : Xt} {k : Nat} {f : Nat → Int32} {ci : Nat} (h : kd k = ci) (hc : ci < 12) : cel0 X k f = .inr (ci, (List.range (nfo ci)).map (fvs0 X k f)) := by
  subst h; unfold cel0; rw [if_pos hc]
theorem cel0_int {X : Xt} {k : Nat} {f : Nat → Int32} (h : kd k = 12) : cel0 X k f = .inl (xac X 0, al k, .inl f) := by
  unfold cel0; rw [h]; rfl
theorem cel0_ref {X : Xt} {k : Nat} {f : Nat → Int32} {t : Nat} (h : kd k = t) (h1 : 12 < t) : cel0 X k f = .inl (xac X (t - 12), al k, .inr (.inr (.inr (.inr (fun j => if f j = 1 then (rs k j).map (xad X) else none))))) := by
  subst h
  unfold cel0
  rw [if_neg (by omega), if_neg (by omega)]
theorem fvs0_get {X : Xt} {k j N : Nat} {f : Nat → Int32} (h : j < N) : ((List.range N).map (fvs0 X k f))[j]? = some (fvs0 X k f j) := by
  rw [List.getElem?_map, List.getElem?_range h]; rfl
theorem fvs0_set {X : Xt} {k j N : Nat} {f : Nat → Int32} {v : Int32} {w : Value} (h : j < N) (hw : fvs0 X k (upd f j v) j = w) : ((List.range N).map (fvs0 X k f)).set j w = (List.range N).map (fvs0 X k (upd f j v)) := by
  apply List.ext_getElem?
  intro i
  by_cases hi : i < N
  · by_cases e : j = i
    · subst e
      rw [List.getElem?_set_self (by simpa using h), fvs0_get h, hw]
    · rw [List.getElem?_set_ne e, fvs0_get hi, fvs0_get hi]
      have : ¬ i = j := fun z => e z.symm
      simp [fvs0, upd, this]
  · rw [List.getElem?_eq_none (by simpa using hi), List.getElem?_eq_none (by simpa using hi)]
theorem World0.set {X : Xt} {τ : St} {k j : Nat} {v : Int32} {H H1 : Heap} (h : World0 X τ H) (hX : XokI X) (hk : k < τ.1) (hz : H1.size = H.size) (hc : va_at (xD X) vwCl (xad X k, cel0 X k (upd (τ.2 k) j v)) H1) (oq : ∀ q : Nat, q ≠ xad X k → H1[q]? = H[q]?) : World0 X (stI τ k j v) H1 := by
  refine ⟨hz.trans h.1, fun k' hk' => ?_⟩
  have hk' : k' < τ.1 := hk'
  show va_at (xD X) vwCl (xad X k', cel0 X k' (sto τ.2 k j v k')) H1
  by_cases e : k' = k
  · subst e; rw [sto_row]; exact hc
  · rw [sto_cell e]
    exact (h.2 k' hk').kept (oq _ (fun z => e (by rw [hX, hX] at z; omega)))
/-- a new cell -/
theorem World0.push {X : Xt} {τ : St} {H H1 : Heap} (h : World0 X τ H) (hX : XokI X) (hz : H1.size = H.size + 1) (o1 : ∀ q, q < H.size → H1[q]? = H[q]?) (hc : va_at (xD X) vwCl (H.size, cel0 X τ.1 (fun _ => 0)) H1) : World0 X (nw τ) H1 := by
  refine ⟨by show H1.size = xB X + (τ.1 + 1); rw [hz, h.1]; omega, fun k hk => ?_⟩
  have hk : k < τ.1 + 1 := hk
  show va_at (xD X) vwCl (xad X k, cel0 X k (fun j => if k = τ.1 then 0 else τ.2 k j)) H1
  by_cases e : k = τ.1
  · subst e
    have e2 : xad X τ.1 = H.size := by rw [hX, h.1]
    rw [e2]
    simpa using hc
  · simp only [if_neg e]
    refine (h.2 k (by omega)).kept (o1 _ ?_)
    show xad X k < _
    rw [hX, h.1]; omega
section INIT
variable {R : Type} {K : Kt} {Rm : Room} {X : Xt} {cc : ByteArray} {nL : Nat} {own : String} {ret : Option FieldType} {fin : R → St → State → Prop} {cells slots pc nx : Nat} {ls : List (Nat × Value)} {st : List Value} {σ : St} {ex : Option (R × St)}
theorem CxI.wd (C : CxI K X cc nL own ret) {H : Heap} {locs : List Loc} (hw : World0 X σ H) (hS : va_S (xA X) (ks K).heap H locs) {U : State} (hU : U.heap = H) (hvm : (ks K).vm.Alike U.vm) : Wd0 X σ U :=
  ⟨by rw [hU]; exact hw, va_K.moved hvm C.2.2.2.2.2.1, C.2.2.2.2.2.2.1, C.2.2.2.2.2.2.2.1.1.step hvm (hS.F hU), C.2.2.2.2.2.2.2.1.2.1.moved hvm⟩
theorem cti_of {l : Launch} {y : MethodName} {rm : Room} {av : List Value} {fe : Option (Unit × St)} {ls : List (Nat × Value)} (hy : plainName y.cls = true) (ho : y.cls = own) (hyn : y.name = "<init>") (hls : lv_args 0 av = ls) (hn : (lg_sl av).length ≤ nL)
    (h : ∀ K : Kt, (kme K).name = "<init>" → GI (R := Unit) K rm X cc nL own none (finI K X rm.cells rm.slots) 0 0 0 ls [] σ fe) : CtI l y cc nL rm X av σ fe := by
  intro r σ' hfe
  refine Met.ofW (cc := cc) (maxL := nL) (ret := none) hy rfl ?_
  intro p e s m args below meth c s₁ B hml hv
  obtain ⟨rfl, hW, hK, hX, hSt, hAO⟩ := hv
  have hts := atoms_spec (ws := wsQ y cc nL none) B.pre
  have hown : s.vm.findClass own = some m.cls := by rw [← ho]; exact findClass_of_methodNamed B.named
  have hin : meth.name = "<init>" := (name_of_methodNamed B.named B.method).1.trans hyn
  have hl := lv_entry av (n := nL) hn
  rw [lg_entry_eq]
  exact h (p, l, e, s, m, av.toArray, below, meth, c) hin ⟨B.exec, B.bytes, hml, hown, fun w hw => hts w (List.mem_cons_of_mem _ hw), hK, hX, ⟨hSt, hAO, by rw [hW.1]; omega⟩, B.returns, B.notSynchronized⟩ r σ' hfe s.heap [] _ hW va_S.rf (by rw [← hls]; exact hl)
theorem gi_vret {mc ms : Nat} (hr : ret = none) (hd : Dc cc pc .return_ 1 nx) : GI K Rm X cc nL own ret (finI K X mc ms) mc ms pc ls [] σ (some ((), σ)) := by
  intro C r σ' hex H locs lsA hw hS hl
  cases hex
  exact W.vret (Qc := QsI X () σ) C.1 C.2.1 (C.2.2.2.2.2.2.2.2.1.trans hr) (fun t ht hW => ⟨rfl, C.wd hw hS ht hW.alike, hS.F ht⟩) hS.2.2 hd.1 (hlocks := C.2.2.2.2.2.2.2.2.2)
theorem gi_none : GI K Rm X cc nL own ret fin cells slots pc ls st σ none := fun _ _ _ h => by cases h
theorem gi_iconst {n : Int} {v : Int32} (hd : Dc cc pc (.iconst n) 1 nx) (hv : Int32.ofInt n = v) (kk : GI K Rm X cc nL own ret fin cells slots nx ls (.int v :: st) σ ex) : GI K Rm X cc nL own ret fin cells slots pc ls st σ ex := by
  obtain ⟨hd, rfl⟩ := hd
  exact fun C r σ' hex H locs lsA hw hS hl => lv_iconst C.1 C.2.1 hd hv (kk C r σ' hex H locs lsA hw hS hl)
theorem gi_bipush {n : Int} {v : Int32} (hd : Dc cc pc (.bipush n) 2 nx) (hv : (Int8.ofInt n).toInt32 = v) (kk : GI K Rm X cc nL own ret fin cells slots nx ls (.int v :: st) σ ex) : GI K Rm X cc nL own ret fin cells slots pc ls st σ ex := by
  obtain ⟨hd, rfl⟩ := hd
  exact fun C r σ' hex H locs lsA hw hS hl => lv_bipush C.1 C.2.1 hd hv (kk C r σ' hex H locs lsA hw hS hl)
theorem gi_sipush {n : Int} {v : Int32} (hd : Dc cc pc (.sipush n) 3 nx) (hv : (Int16.ofInt n).toInt32 = v) (kk : GI K Rm X cc nL own ret fin cells slots nx ls (.int v :: st) σ ex) : GI K Rm X cc nL own ret fin cells slots pc ls st σ ex := by
  obtain ⟨hd, rfl⟩ := hd
  exact fun C r σ' hex H locs lsA hw hS hl => lv_sipush C.1 C.2.1 hd hv (kk C r σ' hex H locs lsA hw hS hl)
theorem gi_iload_n {k : Fin 4} {x : Int32} (q : Nat) (hd : Dc cc pc (.iload_n k) 1 nx) (hq : ls[q]? = some ((k : Nat), .int x)) (kk : GI K Rm X cc nL own ret fin cells slots nx ls (.int x :: st) σ ex) : GI K Rm X cc nL own ret fin cells slots pc ls st σ ex := by
  obtain ⟨hd, rfl⟩ := hd
  exact fun C r σ' hex H locs lsA hw hS hl => lv_iload_n C.1 C.2.1 hd rfl (lv_at hl q hq) (kk C r σ' hex H locs lsA hw hS hl)
theorem gi_iload {i : Nat} {x : Int32} (q : Nat) (hd : Dc cc pc (.iload i) 2 nx) (hq : ls[q]? = some (i, .int x)) (kk : GI K Rm X cc nL own ret fin cells slots nx ls (.int x :: st) σ ex) : GI K Rm X cc nL own ret fin cells slots pc ls st σ ex := by
  obtain ⟨hd, rfl⟩ := hd
  exact fun C r σ' hex H locs lsA hw hS hl => lv_iload C.1 C.2.1 hd (lv_at hl q hq) (kk C r σ' hex H locs lsA hw hS hl)
theorem gi_aload_n {k : Fin 4} {x : Nat} (q : Nat) (hd : Dc cc pc (.aload_n k) 1 nx) (hq : ls[q]? = some ((k : Nat), .ref x)) (kk : GI K Rm X cc nL own ret fin cells slots nx ls (.ref x :: st) σ ex) : GI K Rm X cc nL own ret fin cells slots pc ls st σ ex := by
  obtain ⟨hd, rfl⟩ := hd
  exact fun C r σ' hex H locs lsA hw hS hl => lv_aload_n C.1 C.2.1 hd rfl (lv_at hl q hq) (kk C r σ' hex H locs lsA hw hS hl)
theorem gi_aload {i : Nat} {x : Nat} (q : Nat) (hd : Dc cc pc (.aload i) 2 nx) (hq : ls[q]? = some (i, .ref x)) (kk : GI K Rm X cc nL own ret fin cells slots nx ls (.ref x :: st) σ ex) : GI K Rm X cc nL own ret fin cells slots pc ls st σ ex := by
  obtain ⟨hd, rfl⟩ := hd
  exact fun C r σ' hex H locs lsA hw hS hl => lv_aload C.1 C.2.1 hd (lv_at hl q hq) (kk C r σ' hex H locs lsA hw hS hl)
theorem gi_istore_n {k : Fin 4} {x : Int32} {ls' : List (Nat × Value)} (hd : Dc cc pc (.istore_n k) 1 nx) (hn : (k : Nat) < nL) (hq : lset ls k (.int x) = ls') (kk : GI K Rm X cc nL own ret fin cells slots nx ls' st σ ex) : GI K Rm X cc nL own ret fin cells slots pc ls (.int x :: st) σ ex := by
  obtain ⟨hd, rfl⟩ := hd
  exact fun C r σ' hex H locs lsA hw hS hl => lv_istore_n C.1 C.2.1 hd rfl hl hn hq (fun lsB hl => kk C r σ' hex H locs lsB hw hS hl)
theorem gi_istore {i : Nat} {x : Int32} {ls' : List (Nat × Value)} (hd : Dc cc pc (.istore i) 2 nx) (hn : i < nL) (hq : lset ls i (.int x) = ls') (kk : GI K Rm X cc nL own ret fin cells slots nx ls' st σ ex) : GI K Rm X cc nL own ret fin cells slots pc ls (.int x :: st) σ ex := by
  obtain ⟨hd, rfl⟩ := hd
  exact fun C r σ' hex H locs lsA hw hS hl => lv_istore C.1 C.2.1 hd hl hn hq (fun lsB hl => kk C r σ' hex H locs lsB hw hS hl)
theorem gi_astore_n {k : Fin 4} {x : Nat} {ls' : List (Nat × Value)} (hd : Dc cc pc (.astore_n k) 1 nx) (hn : (k : Nat) < nL) (hq : lset ls k (.ref x) = ls') (kk : GI K Rm X cc nL own ret fin cells slots nx ls' st σ ex) : GI K Rm X cc nL own ret fin cells slots pc ls (.ref x :: st) σ ex := by
  obtain ⟨hd, rfl⟩ := hd
  exact fun C r σ' hex H locs lsA hw hS hl => lv_astore_n C.1 C.2.1 hd rfl hl hn hq (fun lsB hl => kk C r σ' hex H locs lsB hw hS hl)
theorem gi_astore {i : Nat} {x : Nat} {ls' : List (Nat × Value)} (hd : Dc cc pc (.astore i) 2 nx) (hn : i < nL) (hq : lset ls i (.ref x) = ls') (kk : GI K Rm X cc nL own ret fin cells slots nx ls' st σ ex) : GI K Rm X cc nL own ret fin cells slots pc ls (.ref x :: st) σ ex := by
  obtain ⟨hd, rfl⟩ := hd
  exact fun C r σ' hex H locs lsA hw hS hl => lv_astore C.1 C.2.1 hd hl hn hq (fun lsB hl => kk C r σ' hex H locs lsB hw hS hl)
theorem gi_iinc {i : Nat} {n : Int} {x v : Int32} {ls' : List (Nat × Value)} (q : Nat) (hd : Dc cc pc (.iinc i n) 3 nx) (hx : ls[q]? = some (i, .int x)) (hv : x + Int32.ofInt n = v) (hn : i < nL) (hq : lset ls i (.int v) = ls') (kk : GI K Rm X cc nL own ret fin cells slots nx ls' st σ ex) : GI K Rm X cc nL own ret fin cells slots pc ls st σ ex := by
  obtain ⟨hd, rfl⟩ := hd
  exact fun C r σ' hex H locs lsA hw hS hl => lv_iinc (k := q) C.1 C.2.1 hd hl hx hv hn hq (fun lsB hl => kk C r σ' hex H locs lsB hw hS hl)
theorem gi_sub {ls' : List (Nat × Value)} (ks' : List Nat) (h : lv_pick ls ks' = ls') (kk : GI K Rm X cc nL own ret fin cells slots pc ls' st σ ex) : GI K Rm X cc nL own ret fin cells slots pc ls st σ ex :=
  fun C r σ' hex H locs lsA hw hS hl => kk C r σ' hex H locs lsA hw hS (lv_sub hl ks' h)
theorem gi_topi {x : Int32} {f : Int32 → Option (R × St)} (kk : ∀ y, GI K Rm X cc nL own ret fin cells slots pc ls (.int y :: st) σ (f y)) : GI K Rm X cc nL own ret fin cells slots pc ls (.int x :: st) σ (lt x f) := kk x
theorem gi_jn {T : Type} {P : T → Prop} {k0 : T} {f : T → Option (R × St)} (h0 : P k0) (h : ∀ k, P k → GI K Rm X cc nL own ret fin cells slots pc ls st σ (f k)) : GI K Rm X cc nL own ret fin cells slots pc ls st σ (lt k0 f) := h k0 h0
theorem gi_widen {cells' slots' : Nat} (h1 : cells ≤ cells') (h2 : slots ≤ slots') (kk : GI K Rm X cc nL own ret fin cells' slots' pc ls st σ ex) : GI K Rm X cc nL own ret fin cells slots pc ls st σ ex :=
  fun C r σ' hex H locs lsA hw hS hl => W.widen h1 h2 (kk C r σ' hex H locs lsA hw hS hl)
theorem gi_goto {off : Int} {tgt : Nat} (hd : Dc cc pc (.goto off) 3 nx) (ht : (pc : Int) + off = (tgt : Int)) (kk : GI K Rm X cc nL own ret fin cells slots tgt ls st σ ex) : GI K Rm X cc nL own ret fin cells slots pc ls st σ ex := by
  obtain ⟨hd, rfl⟩ := hd
  exact fun C r σ' hex H locs lsA hw hS hl => lv_goto C.1 C.2.1 hd ht (kk C r σ' hex H locs lsA hw hS hl)
theorem gi_dup {v : Value} (hd : Dc cc pc .dup 1 nx) (hv : v.category = 1) (kk : GI K Rm X cc nL own ret fin cells slots nx ls (v :: v :: st) σ ex) : GI K Rm X cc nL own ret fin cells slots pc ls (v :: st) σ ex := by
  obtain ⟨hd, rfl⟩ := hd
  exact fun C r σ' hex H locs lsA hw hS hl => lv_dup C.1 C.2.1 hd hv (kk C r σ' hex H locs lsA hw hS hl)
theorem gi_icmp_ge {x y : Int32} {off : Int} {tgt : Nat} {e1 e2 : Option (R × St)} (hd : Dc cc pc (.if_icmp .ge off) 3 nx) (ht : (pc : Int) + off = (tgt : Int)) (k1 : GI K Rm X cc nL own ret fin cells slots nx ls st σ e1) (k2 : GI K Rm X cc nL own ret fin cells slots tgt ls st σ e2) : GI K Rm X cc nL own ret fin cells slots pc ls (.int y :: .int x :: st) σ (if x < y then e1 else e2) := by
  obtain ⟨hd, rfl⟩ := hd
  intro C r σ' hex H locs lsA hw hS hl
  by_cases h : x < y
  · rw [if_pos h] at hex
    exact lv_icmp_ge C.1 C.2.1 hd ht (fun z => absurd h (Int32.not_lt.mpr z)) (fun _ => k1 C r σ' hex H locs lsA hw hS hl)
  · rw [if_neg h] at hex
    exact lv_icmp_ge C.1 C.2.1 hd ht (fun _ => k2 C r σ' hex H locs lsA hw hS hl) (fun z => absurd (Int32.not_lt.mp h) z)
theorem gi_icmp_lt {x y : Int32} {off : Int} {tgt : Nat} {e1 e2 : Option (R × St)} (hd : Dc cc pc (.if_icmp .lt off) 3 nx) (ht : (pc : Int) + off = (tgt : Int)) (k1 : GI K Rm X cc nL own ret fin cells slots tgt ls st σ e1) (k2 : GI K Rm X cc nL own ret fin cells slots nx ls st σ e2) : GI K Rm X cc nL own ret fin cells slots pc ls (.int y :: .int x :: st) σ (if x < y then e1 else e2) := by
  obtain ⟨hd, rfl⟩ := hd
  intro C r σ' hex H locs lsA hw hS hl
  by_cases h : x < y
  · rw [if_pos h] at hex
    exact lv_icmp_lt C.1 C.2.1 hd ht (fun _ => k1 C r σ' hex H locs lsA hw hS hl) (fun z => absurd h z)
  · rw [if_neg h] at hex
    exact lv_icmp_lt C.1 C.2.1 hd ht (fun z => absurd z h) (fun _ => k2 C r σ' hex H locs lsA hw hS hl)
theorem gi_if_lt {x : Int32} {off : Int} {tgt : Nat} {e1 e2 : Option (R × St)} (hd : Dc cc pc (.ifCond .lt off) 3 nx) (ht : (pc : Int) + off = (tgt : Int)) (k1 : GI K Rm X cc nL own ret fin cells slots tgt ls st σ e1) (k2 : GI K Rm X cc nL own ret fin cells slots nx ls st σ e2) : GI K Rm X cc nL own ret fin cells slots pc ls (.int x :: st) σ (if x < 0 then e1 else e2) := by
  obtain ⟨hd, rfl⟩ := hd
  intro C r σ' hex H locs lsA hw hS hl
  by_cases h : x < 0
  · rw [if_pos h] at hex
    exact lv_if_lt C.1 C.2.1 hd ht (fun _ => k1 C r σ' hex H locs lsA hw hS hl) (fun z => absurd h z)
  · rw [if_neg h] at hex
    exact lv_if_lt C.1 C.2.1 hd ht (fun z => absurd z h) (fun _ => k2 C r σ' hex H locs lsA hw hS hl)
theorem gi_if_ge {x : Int32} {off : Int} {tgt : Nat} {e1 e2 : Option (R × St)} (hd : Dc cc pc (.ifCond .ge off) 3 nx) (ht : (pc : Int) + off = (tgt : Int)) (k1 : GI K Rm X cc nL own ret fin cells slots nx ls st σ e1) (k2 : GI K Rm X cc nL own ret fin cells slots tgt ls st σ e2) : GI K Rm X cc nL own ret fin cells slots pc ls (.int x :: st) σ (if x < 0 then e1 else e2) := by
  obtain ⟨hd, rfl⟩ := hd
  intro C r σ' hex H locs lsA hw hS hl
  by_cases h : x < 0
  · rw [if_pos h] at hex
    exact lv_if_ge C.1 C.2.1 hd ht (fun z => absurd h (Int32.not_lt.mpr z)) (fun _ => k1 C r σ' hex H locs lsA hw hS hl)
  · rw [if_neg h] at hex
    exact lv_if_ge C.1 C.2.1 hd ht (fun _ => k2 C r σ' hex H locs lsA hw hS hl) (fun z => absurd (Int32.not_lt.mp h) z)
/-- java/lang/Object's own constructor -/
def OI (own : String) (idx : Nat) : Prop := Cond.methodLink own idx objectInit ∈ TB ∧ Cond.instanceMethod objectInit ∈ TB ∧ Cond.code objectInit ⟨#[0xb1]⟩ 1 none ∈ TB
theorem gi_objInit {idx a : Nat} (hd : Dc cc pc (.invokespecial idx) 3 nx) (ho : OI own idx) (hfr : 1 ≤ Rm.frames) (hlo : (st.map fun v => v.category).sum + 12 ≤ Rm.locals) (kk : GI K Rm X cc nL own ret fin cells slots nx ls st σ ex) : GI K Rm X cc nL own ret fin cells slots pc ls (.ref a :: st) σ ex := by
  obtain ⟨hd, rfl⟩ := hd
  intro C r σ' hex H locs lsA hw hS hl
  exact W.objInit C.1 C.2.1 C.2.2.2.1 (C.2.2.2.2.1 _ ho.1) (C.2.2.2.2.1 _ ho.2.1) (C.2.2.2.2.1 _ ho.2.2) rfl (by rw [C.2.2.1]; exact hl.1) rfl hd hfr (by show 2 * 0 + _ + 12 ≤ _; omega) (kk C r σ' hex H locs lsA hw hS hl)
def NW (own : String) (idx ci : Nat) : Prop := ∃ (Cn : String) (T : u_T) (N : Nat) (ty : Nat → FieldType), vwCl[ci]? = some (Cn, T, N) ∧ N = nfo ci ∧ (∀ w ∈ u_ws Cn T N, w ∈ TB) ∧ (∀ k, k < N → parseFieldDescriptor (T k).2.2.1 = some (ty k)) ∧ (Cond.classLink own idx Cn ∈ TB) ∧ Cond.instantiable Cn N ∈ TB ∧ Cond.initialized Cn ∈ TB ∧ ∀ k j, kd k = ci → j < N → fvs0 X k (fun _ => 0) j = defaultValue (ty j)
theorem gi_new {idx ci : Nat} {f : St → Option (R × St)} (hd : Dc cc pc (.new idx) 3 nx) (hnw : NW (X := X) own idx ci) (hc : cells + 1 ≤ Rm.cells) (hs : slots + nfo ci ≤ Rm.slots)
    (kk : ∀ t1, GI K Rm X cc nL own ret fin (cells + 1) (slots + nfo ci) nx ls (.ref (xad X σ.1) :: st) t1 (f t1)) : GI K Rm X cc nL own ret fin cells slots pc ls st σ (ck (kd σ.1 == ci) (lt (nw σ) f)) := by
  obtain ⟨hd, rfl⟩ := hd
  intro C r σ' hex H locs lsA hw hS hl
  obtain ⟨hi, hex⟩ := ck_some hex
  have hkd : kd σ.1 = ci := by simpa using hi
  obtain ⟨Cn, T, N, ty, h1, h2, h3, h4, h5, h6, h7, h8⟩ := hnw
  subst h2
  have hci : ci < 12 := (List.getElem?_eq_some_iff.mp h1).1
  have hKn := C.2.2.2.2.2.1.1 ci _ h1
  have hX := C.2.2.2.2.2.2.1
  have had : xad X σ.1 = H.size := by rw [hX, hw.1]
  rw [had] at kk
  refine W.newcK C.1 C.2.1 C.2.2.2.1 (C.2.2.2.2.1 _ h5) (C.2.2.2.2.1 _ h6) (C.2.2.2.2.1 _ h7) rfl hd hc hs hKn.2.1 rfl fun H1 kC hkC e1 z1 o1 => ?_
  refine kk (nw σ) C r σ' hex H1 locs lsA (hw.push hX z1 o1 ?_) ⟨Nat.le_trans hS.1 (by omega), fun x g1 g2 => (o1 x (Nat.lt_of_lt_of_le g1 hS.1)).trans (hS.2.1 x g1 g2), hS.2.2⟩ hl
  rw [cel0_obj hkd hci]
  refine ⟨_, h1, (u_born ty C.2.2.2.2.1 h3 hKn hkC e1 h4).to (fun j hj => ?_)⟩
  rw [← h8 σ.1 j hkd hj]
  simp [vp_V, List.getD, fvs0_get hj]
theorem gi_newa {n : Int32} {N : Nat} {f : St → Option (R × St)} (hd : Dc cc pc (.newarray .int) 2 nx) (hwd : Cond.arrayClass .int ∈ TB) (hn : ¬ n < 0) (hN : ix n = N) (hb : N * 4 ≤ 536870912) (hc : cells + 1 ≤ Rm.cells) (hs : slots + N ≤ Rm.slots)
    (kk : ∀ t1, GI K Rm X cc nL own ret fin (cells + 1) (slots + N) nx ls (.ref (xad X σ.1) :: st) t1 (f t1)) : GI K Rm X cc nL own ret fin cells slots pc ls (.int n :: st) σ (ck (kd σ.1 == 12 && al σ.1 == N) (lt (nw σ) f)) := by
  obtain ⟨hd, rfl⟩ := hd
  intro C r σ' hex H locs lsA hw hS hl
  obtain ⟨hi, hex⟩ := ck_some hex
  simp only [Bool.and_eq_true, beq_iff_eq] at hi
  have hX := C.2.2.2.2.2.2.1
  have had : xad X σ.1 = H.size := by rw [hX, hw.1]
  rw [had] at kk
  refine va_newaK (atype := .int) C.1 C.2.1 (C.2.2.2.2.1 _ hwd) rfl hd rfl hn (N := N) hN (by show N * 4 ≤ _; exact hb) hc hs (h := H.size) rfl fun H1 cA e1 z1 o1 hAr hNm => ?_
  have hcA : cA = xac X 0 := Option.some.inj (hNm.symm.trans (C.2.2.2.2.2.1.2 0 _ rfl).2)
  refine kk (nw σ) C r σ' hex H1 locs lsA (hw.push hX z1 o1 ?_) ⟨Nat.le_trans hS.1 (by omega), fun x g1 g2 => (o1 x (Nat.lt_of_lt_of_le g1 hS.1)).trans (hS.2.1 x g1 g2), hS.2.2⟩ hl
  rw [cel0_int hi.1, hi.2]
  show H1[H.size]? = some (vp_cell (xac X 0) (N, .inl (fun _ => 0)))
  rw [e1, hcA, vp_cell_i]
  congr 1
theorem gi_anew {idx t N : Nat} {n : Int32} {Cn : String} {f : St → Option (R × St)} (hd : Dc cc pc (.anewarray idx) 3 nx) (hcl : Cond.classLink own idx Cn ∈ TB) (ht : 12 < t) (htt : (tyX X)[t - 12]? = some (xac X (t - 12), .object Cn)) (hao : ∀ U, AOs U → va_AO Cn U) (hn : ¬ n < 0) (hN : ix n = N) (hb : N * 4 ≤ 536870912) (hc : cells + 1 ≤ Rm.cells) (hs : slots + N ≤ Rm.slots)
    (kk : ∀ t1, GI K Rm X cc nL own ret fin (cells + 1) (slots + N) nx ls (.ref (xad X σ.1) :: st) t1 (f t1)) : GI K Rm X cc nL own ret fin cells slots pc ls (.int n :: st) σ (ck (kd σ.1 == t && al σ.1 == N) (lt (nw σ) f)) := by
  obtain ⟨hd, rfl⟩ := hd
  subst hN
  intro C r σ' hex H locs lsA hw hS hl
  obtain ⟨hi, hex⟩ := ck_some hex
  simp only [Bool.and_eq_true, beq_iff_eq] at hi
  have hX := C.2.2.2.2.2.2.1
  have had : xad X σ.1 = H.size := by rw [hX, hw.1]
  rw [had] at kk
  refine W.anew C.1 C.2.1 C.2.2.2.1 (C.2.2.2.2.1 _ hcl) (va_AO.use (hao _ C.2.2.2.2.2.2.2.1.2.1)) rfl hd rfl hn hb hc hs fun cA kA comp f1 f2 f3 f4 => ?_
  generalize hH1 : H.push ({ cls := cA, slots := Array.replicate n.toNatClampNeg .null, vm := .none } : Cell) = H1
  have z1 : H1.size = H.size + 1 := by rw [← hH1, Array.size_push]
  have e1 : H1[H.size]? = some (arrV cA n.toNatClampNeg (fun _ => .null)) := by rw [← hH1, Array.getElem?_push_size, ← arrV_new]
  have o1 : ∀ q : Nat, q < H.size → H1[q]? = H[q]? := fun q hq => by rw [← hH1, Array.getElem?_push, if_neg (Nat.ne_of_lt hq)]
  have hcA : cA = xac X (t - 12) := by
    obtain ⟨kA', comp', -, -, -, g4⟩ := (C.2.2.2.2.2.1.2 (t - 12) _ htt).2
    exact Option.some.inj (f1.symm.trans g4)
  refine kk (nw σ) C r σ' hex H1 locs lsA (hw.push hX z1 o1 ?_) ⟨Nat.le_trans hS.1 (by omega), fun x g1 g2 => (o1 x (Nat.lt_of_lt_of_le g1 hS.1)).trans (hS.2.1 x g1 g2), hS.2.2⟩ hl
  rw [cel0_ref hi.1 ht, hi.2]
  show H1[H.size]? = some (vp_cell (xac X (t - 12)) (ix n, .inr (.inr (.inr (.inr (fun j => if (0 : Int32) = 1 then (rs σ.1 j).map (xad X) else none))))))
  rw [e1, hcA, vp_cell_q]
  congr 1
def FPI (own : String) (idx ci j : Nat) (ty : FieldType) : Prop := ∃ (C : String) (T : u_T) (N : Nat) (ty0 : Nat → FieldType), vwCl[ci]? = some (C, T, N) ∧ N = nfo ci ∧ j < N ∧ (T j).1 = C ∧ C = own ∧ (∀ w ∈ u_ws C T N, w ∈ TB) ∧ Cond.fieldLink own idx C (T j).2.1 (T j).2.2.1 ∈ TB ∧ (∀ k, k < N → parseFieldDescriptor (T k).2.2.1 = some (ty0 k)) ∧ (∀ a, a < N → ∀ b, b < N → a ≠ b → (T a).2.1 ≠ (T b).2.1) ∧ parseFieldDescriptor (T j).2.2.1 = some ty
theorem gi_putV {idx ci j k : Nat} {v' : Int32} {v : Value} {ty : FieldType} {f : St → Option (R × St)} (hin : (kme K).name = "<init>") (hd : Dc cc pc (.putfield idx) 3 nx) (hf : FPI own idx ci j ty) (hk : k < σ.1) (hkd : kd k = ci) (hn : narrow ty v = v) (hfit : fits ty v = true) (hv : fvs0 X k (upd (σ.2 k) j v') j = v)
    (kk : ∀ t1, GI K Rm X cc nL own ret fin cells slots nx ls st t1 (f t1)) : GI K Rm X cc nL own ret fin cells slots pc ls (v :: .ref (xad X k) :: st) σ (lt (stI σ k j v') f) := by
  obtain ⟨hd, rfl⟩ := hd
  obtain ⟨Cn, T, N, ty0, h1, h2, h3, h4, h4', h5, h6, h7, h8, h10⟩ := hf
  subst h2
  intro C r σ' hex H locs lsA hw hS hl
  have hci : ci < 12 := (List.getElem?_eq_some_iff.mp h1).1
  have hP : va_P (xD X) vwCl [(xad X k, cel0 X k (σ.2 k))] H := va_P_one (hw.2 k hk)
  have hX := C.2.2.2.2.2.2.1
  have hA : xA X (xad X k) := by show xB X ≤ _; rw [hX]; omega
  rw [cel0_obj hkd hci] at hP
  have hl1 : j < ((List.range (nfo ci)).map (fvs0 X k (σ.2 k))).length := by simp; omega
  have hap := va_apart (own := own) C.2.2.2.2.1 h5 ty0 h7 h8 C.2.2.2.2.2.1 h1
  obtain ⟨r0, g1, cell, q1, q2, q3, q4⟩ := hP 0 _ rfl
  have hr0 : r0 = (Cn, T, nfo ci) := Option.some.inj (g1.symm.trans h1)
  subst hr0
  obtain ⟨hSl, hfc, kC, hkC, hkind⟩ := C.2.2.2.2.2.1.1 ci _ h1
  obtain ⟨cf, kf, fi, fd, hi, hsl⟩ := hSl j h3
  have hst := (u_facts hfc hkC (u_lays C.2.2.2.2.1 h5 h3) hi).1
  have hsame : (ks K).fieldFound? Cn (T j).2.1 (T j).2.2.1 = some (cf, kf, fi, fd) := h4 ▸ hi
  have fin1 : ∀ H' : Heap, H'[xad X k]? = some (cell.setSlot fd.slot v) → H'.size = H.size → (∀ q, q ≠ xad X k → H'[q]? = H[q]?) → W (kp K) (kl K) (ke K) Rm (ks K) (km K) (ka K) (kb K) (kme K) (kc K) H' (locs ++ [⟨xad X k, fd.slot⟩]) cells slots (fin r σ') (F0 (km K) (pc + 3) lsA st) := by
    intro H1 e1 e2 e3
    refine kk (stI σ k j v') C r σ' hex H1 _ lsA ?_ (hS.put e2 e3 hA) hl
    refine hw.set hX hk e2 ?_ e3
    rw [hsl] at e1
    have hat : va_at (xD X) vwCl (xad X k, .inr (ci, ((List.range (nfo ci)).map (fvs0 X k (σ.2 k))).set j v)) H1 := ⟨_, h1, t_OB.to (V := updV (vp_V ((List.range (nfo ci)).map (fvs0 X k (σ.2 k)))) j v) ⟨_, e1, q2, q3, t_set q4 hap h3 v⟩ (fun j' _ => vp_updV_set hl1 v j')⟩
    rw [fvs0_set h3 hv] at hat
    rw [cel0_obj hkd hci]
    exact hat
  have hlay := C.2.2.2.2.1 _ (h5 _ (u_in_lay h3))
  unfold u_lay at hlay
  by_cases hfin : (T j).2.2.2 = true
  · rw [if_pos hfin] at hlay
    have hcf : (km K).cls = cf := by
      obtain ⟨_, _, c', _, _, _, -, -, hf', -, -, -, hown2, -⟩ := Cond.laysFinal_spec hlay
      have e1 : c' = cf := by have := hi.symm.trans hf'; simp at this; exact this.1.symm
      rw [h4, h4'] at hown2
      rw [← e1]; exact Option.some.inj (C.2.2.2.1.symm.trans hown2)
    have hsd := u_fits hfc hkC hkind (Or.inr hlay) hi h10 hn hfit
    exact W.putFinK C.1 C.2.1 C.2.2.2.1 (C.2.2.2.2.1 _ h6) hsame hst hcf hin (by rw [q2]; exact hsd) q1 q3 (by rw [hsl]; exact k2_hasslot (q4 j h3)) rfl rfl hd fin1
  · rw [if_neg hfin] at hlay
    have hsd := u_store hfc hkC hkind hlay hi h10 hn hfit
    exact W.putK C.1 C.2.1 (f := fd) ⟨C.2.2.2.1, C.2.2.2.2.1 _ h6, ⟨_, _, _, hsame⟩, hst⟩ (by rw [q2]; exact hsd) q1 q3 (by rw [hsl]; exact k2_hasslot (q4 j h3)) rfl rfl hd fin1
theorem gi_ck {b : Bool} (h : b = true → GI K Rm X cc nL own ret fin cells slots pc ls st σ ex) : GI K Rm X cc nL own ret fin cells slots pc ls st σ (ck b ex) := by
  intro C r σ' hex
  obtain ⟨hb, hex⟩ := ck_some hex
  exact h hb C r σ' hex
theorem gi_putI {idx ci j k : Nat} {v : Int32} {f : St → Option (R × St)} (hin : (kme K).name = "<init>") (hd : Dc cc pc (.putfield idx) 3 nx) (hf : FPI own idx ci j .int) (hr : ∀ k, rsk ci k j = none)
    (kk : ∀ t1, GI K Rm X cc nL own ret fin cells slots nx ls st t1 (f t1)) : GI K Rm X cc nL own ret fin cells slots pc ls (.int v :: .ref (xad X k) :: st) σ (ck (decide (k < σ.1) && kd k == ci) (lt (stI σ k j v) f)) := by
  refine gi_ck (fun hb => ?_)
  simp only [Bool.and_eq_true, decide_eq_true_eq, beq_iff_eq] at hb
  refine gi_putV hin hd hf hb.1 hb.2 rfl rfl ?_ kk
  unfold fvs0 rs; rw [hb.2, hr]; simp [upd]
theorem gi_putZ {idx ci j k : Nat} {v : Int32} {f : St → Option (R × St)} (hin : (kme K).name = "<init>") (hd : Dc cc pc (.putfield idx) 3 nx) (hf : FPI own idx ci j .boolean) (hr : ∀ k, rsk ci k j = none)
    (kk : ∀ t1, GI K Rm X cc nL own ret fin cells slots nx ls st t1 (f t1)) : GI K Rm X cc nL own ret fin cells slots pc ls (.int v :: .ref (xad X k) :: st) σ (ck (decide (k < σ.1) && (kd k == ci && isB v)) (lt (stI σ k j v) f)) := by
  refine gi_ck (fun hb => ?_)
  simp only [Bool.and_eq_true, decide_eq_true_eq, beq_iff_eq] at hb
  refine gi_putV hin hd hf hb.1 hb.2.1 (isB_nar hb.2.2) ?_ ?_ kk
  · have hv := hb.2.2
    simp only [isB, Bool.or_eq_true, beq_iff_eq] at hv
    rcases hv with rfl | rfl <;> rfl
  · unfold fvs0 rs; rw [hb.2.1, hr]; simp [upd]
theorem gi_putR {idx ci j k i : Nat} {ty : FieldType} {f : St → Option (R × St)} (hin : (kme K).name = "<init>") (hd : Dc cc pc (.putfield idx) 3 nx) (hf : FPI own idx ci j ty) (hn : narrow ty (.ref (xad X i)) = .ref (xad X i)) (hfit : fits ty (.ref (xad X i)) = true)
    (kk : ∀ t1, GI K Rm X cc nL own ret fin cells slots nx ls st t1 (f t1)) : GI K Rm X cc nL own ret fin cells slots pc ls (.ref (xad X i) :: .ref (xad X k) :: st) σ (ck (decide (k < σ.1) && (kd k == ci && rsk ci k j == some i)) (lt (stI σ k j 1) f)) := by
  refine gi_ck (fun hb => ?_)
  simp only [Bool.and_eq_true, decide_eq_true_eq, beq_iff_eq] at hb
  refine gi_putV hin hd hf hb.1 hb.2.1 hn hfit ?_ kk
  unfold fvs0 rs; rw [hb.2.1, hb.2.2]; simp [upd]
theorem gi_getR {idx ci j k i : Nat} (hd : Dc cc pc (.getfield idx) 3 nx) (hf : FL own idx ci j)
    (kk : GI K Rm X cc nL own ret fin cells slots nx ls (.ref (xad X i) :: st) σ ex) : GI K Rm X cc nL own ret fin cells slots pc ls (.ref (xad X k) :: st) σ (ck (decide (k < σ.1) && (kd k == ci && (rsk ci k j == some i && σ.2 k j == 1))) ex) := by
  refine gi_ck (fun hb => ?_)
  simp only [Bool.and_eq_true, decide_eq_true_eq, beq_iff_eq] at hb
  obtain ⟨hk, hkd, hr, h1⟩ := hb
  obtain ⟨hd, rfl⟩ := hd
  obtain ⟨Cn, T, N, g1, g2, g3, g4, g5, g6⟩ := hf
  subst g2
  intro C r σ' hex H locs lsA hw hS hl
  have hci : ci < 12 := (List.getElem?_eq_some_iff.mp g1).1
  have hP : va_P (xD X) vwCl [(xad X k, cel0 X k (σ.2 k))] H := va_P_one (hw.2 k hk)
  rw [cel0_obj hkd hci] at hP
  have hget : ((List.range (nfo ci)).map (fvs0 X k (σ.2 k)))[j]? = some (.ref (xad X i)) := by
    rw [fvs0_get g3]
    unfold fvs0 rs; rw [hkd, hr]; simp [h1]
  rcases g6 with h6 | ⟨host, h6⟩
  · exact va_get (D := xD X) (ci := ci) (v := .ref (xad X i)) (C := Cn) (T := T) (N := nfo ci) C.1 C.2.1 C.2.2.2.2.1 g5 C.2.2.2.1 C.2.2.2.2.2.1 hP 0 rfl g1 j g3 (C.2.2.2.2.1 _ h6) (fun _ h9 => g4 ▸ h9) hget hd (kk C r σ' hex H locs lsA hw hS hl)
  · exact va_getN (D := xD X) (ci := ci) (v := .ref (xad X i)) (C := Cn) (T := T) (N := nfo ci) C.1 C.2.1 C.2.2.2.2.1 g5 C.2.2.2.1 C.2.2.2.2.2.1 hP 0 rfl g1 j g3 (C.2.2.2.2.1 _ h6) (fun _ h9 => g4 ▸ h9) hget hd (kk C r σ' hex H locs lsA hw hS hl)
theorem gi_aast {k i t ci N : Nat} {v : Int32} {Cn : String} {T : u_T} {f : St → Option (R × St)} (hd : Dc cc pc .aastore 1 nx) (ht : 12 < t) (htt : (tyX X)[t - 12]? = some (xac X (t - 12), .object Cn)) (hcl : vwCl[ci]? = some (Cn, T, N))
    (kk : ∀ t1, GI K Rm X cc nL own ret fin cells slots nx ls st t1 (f t1)) : GI K Rm X cc nL own ret fin cells slots pc ls (.ref (xad X i) :: .int v :: .ref (xad X k) :: st) σ (ck (decide (k < σ.1) && (decide (i < σ.1) && (kd k == t && (kd i == ci && (inb v (al k) && rsk t k (ix v) == some i))))) (lt (stI σ k (ix v) 1) f)) := by
  refine gi_ck (fun hb => ?_)
  simp only [Bool.and_eq_true, decide_eq_true_eq, beq_iff_eq] at hb
  obtain ⟨hk, hi, hkd, hid, hin, hr⟩ := hb
  obtain ⟨hd, rfl⟩ := hd
  intro C r σ' hex H locs lsA hw hS hl
  have hX := C.2.2.2.2.2.2.1
  have hci : ci < 12 := (List.getElem?_eq_some_iff.mp hcl).1
  have hA : xA X (xad X k) := by show xB X ≤ _; rw [hX]; omega
  have hP : va_P (xD X) vwCl [(xad X k, cel0 X k (σ.2 k))] H := va_P_one (hw.2 k hk)
  have hPi : va_P (xD X) vwCl [(xad X i, cel0 X i (σ.2 i))] H := va_P_one (hw.2 i hi)
  rw [cel0_ref hkd ht] at hP
  rw [cel0_obj hid hci] at hPi
  have hv := inb_in hin
  have hlt : v.toNatClampNeg < al k := Nat.not_le.mp fun q => hv (Or.inr q)
  have h0 : ¬ v < 0 := fun q => hv (Or.inl q)
  obtain ⟨r', hr', cellV, g1, g2, g3, -⟩ := hPi 0 _ rfl
  have hcls := (C.2.2.2.2.2.1.1 ci _ hcl).2
  obtain ⟨kA, comp, k1, k2, k3, -⟩ := (C.2.2.2.2.2.1.2 (t - 12) _ htt).2
  have hcomp : comp = (xD X).1 ci := Option.some.inj (k3.symm.trans hcls.1)
  subst hcomp
  obtain ⟨kC, hkC, -⟩ := hcls.2
  refine W.aast C.1 C.2.1 (hP 0 _ rfl) (fun q h => by cases h) (fun h => by cases h) k1 k2 rfl hkC ⟨h0, by show _ < (arrV _ _ _).slots.size; rw [arrV_size]; exact hlt⟩ g1 (fun q h => by rw [g3] at h; cases h) (by rw [g2]; exact hkC) (by rw [g2]; exact va_assign hcls) rfl rfl hd fun H1 e z oq => ?_
  refine kk (stI σ k (ix v) 1) C r σ' hex H1 _ lsA ?_ (hS.put z oq hA) hl
  refine hw.set hX hk z ?_ oq
  rw [cel0_ref hkd ht]
  show H1[xad X k]? = some (vp_cell _ _)
  rw [e, vp_cell_q, vp_cell_q, arrV_store]
  congr 2
  funext q
  by_cases hq : q = v.toNatClampNeg
  · subst hq
    have hrs : rs k v.toNatClampNeg = some i := by unfold rs; rw [hkd]; exact hr
    simp [updV, upd, hrs, va_rf]
  · simp [updV, upd, hq]
theorem gi_call {y : MethodName} {cc1 : ByteArray} {nL1 n idx k : Nat} {rm1 : Room} {As : List Value} {st0 : List Value} {fe : Option (Unit × St)} {f : Unit → St → Option (R × St)} (hc : CM own idx y cc1 nL1 none n) (hi : Cond.instanceMethod y ∈ TB) (hyn : y.name = "<init>") (hd : Dc cc pc (.invokespecial idx) 3 nx) (hM : CtI (kl K) y cc1 nL1 rm1 X (.ref (xad X k) :: As) σ fe) (hn : As.length = n) (hst : st0 = As.reverse ++ .ref (xad X k) :: st) (hcat : (st.map fun v => v.category).sum ≤ 8) (hR : rm1.frames + 1 ≤ Rm.frames ∧ 8 + (nL1 + 11) + rm1.locals ≤ Rm.locals) {dc ds : Nat} (hz : rm1.cells = dc ∧ rm1.slots = ds) (hf : cells + dc ≤ Rm.cells ∧ slots + ds ≤ Rm.slots)
    (kk : ∀ t1, GI K Rm X cc nL own ret fin (cells + dc) (slots + ds) nx ls st t1 (f () t1)) : GI K Rm X cc nL own ret fin cells slots pc ls st0 σ (clS fe f) := by
  obtain ⟨hd, rfl⟩ := hd
  obtain ⟨rfl, rfl⟩ := hz
  intro C r σ' hex H locs lsA hw hS hl
  obtain ⟨r1, σ1, hfe, hex⟩ := clS_some hex
  have hpre : PreS (ks K) H (va_Pc (.ref (xad X k) :: As) (Wd0 X σ)) (.ref (xad X k) :: As) := ⟨fun a U g mk q => ⟨q.1, q.2.calling⟩, fun U hU hWm => ⟨rfl, C.wd hw hS hU hWm.alike⟩⟩
  have ht := C.2.2.2.2.1
  have hrun : va_Run (kp K) (kl K) (ke K) Rm (ks K) (km K) (ka K) (kb K) (kme K) (kc K) H locs cells slots rm1.cells rm1.slots (F0 (km K) pc lsA st0) st (QsI X r1 σ1 (.ref (xad X k) :: As : List Value).toArray) (xA X) := by
    rcases hc.1 with h1 | ⟨host, h1⟩
    · exact va_runI (Ts := TB) ⟨C.1, C.2.1, C.2.2.1, C.2.2.2.1, ht⟩ (hM r1 σ1 hfe) (bytes := cc1) (maxL := nL1) ⟨⟨rfl, rfl, hR.1, hR.2, hc.ws ht, List.mem_cons_self, ht _ hc.2.2.1, ht _ hc.2.1, ⟨hc.2.2.2.1, hc.2.2.2.2.1⟩, hc.par, ht _ h1⟩, hyn, ht _ hi⟩ hpre rfl hn hl.1 hst (lv_room hcat) hd hf
    · exact va_runIN (Ts := TB) ⟨C.1, C.2.1, C.2.2.1, C.2.2.2.1, ht⟩ (hM r1 σ1 hfe) (host := host) (bytes := cc1) (maxL := nL1) ⟨⟨⟨rfl, rfl, hR.1, hR.2, hc.ws ht, List.mem_cons_self⟩, ht _ hc.2.2.1, ht _ hc.2.1, ⟨hc.2.2.2.1, hc.2.2.2.2.1⟩, hc.par, ht _ h1⟩, hyn, ht _ hi⟩ hpre rfl hn hl.1 hst (lv_room hcat) hd hf
  intro T hT X0
  obtain ⟨v, st₀, t, T', L, h0, X', hL, e1, e2, ⟨hv, hWd, hz, hk⟩, stp⟩ := hrun T hT X0
  cases hv
  rw [h0] at hz hk
  obtain ⟨t2, a1, b1⟩ := kk σ1 C r σ' hex T'.heap (locs ++ L) lsA (by rw [e1]; exact hWd.1) ⟨Nat.le_trans hS.1 (by rw [e1]; exact hz), fun q h1 h2 => by rw [e1, hk q (Nat.lt_of_lt_of_le h1 hS.1) h2]; exact hS.2.1 q h1 h2, fun q hq => by
      rcases List.mem_append.mp hq with h | h
      · exact hS.2.2 q h
      · exact hL q h⟩ hl T' rfl X'
  exact ⟨t2, stp t2 a1, b1⟩
end INIT
