section CALLS
variable {R : Type} {K : Kt} {Rm : Room} {X : Xt} {cc : ByteArray} {nL : Nat} {own : String} {ret : Option FieldType} {fin : R → Mem → State → Prop} {cells slots pc nx : Nat} {ls : List (Nat × Value)} {st : List Value} {σ : Mem} {ex : Option (R × Mem)}
/-- static arrays -/
def SL (own : String) (idx j : Nat) : Prop := j < 6 ∧ (Cond.fieldLink own idx (sC j) (sN j) (sD j) ∈ TB ∨ ∃ host, Cond.fieldLinkNest own idx (sC j) (sN j) (sD j) host ∈ TB)
theorem ge_gets {idx j : Nat} (hd : Dc cc pc (.getstatic idx) 3 nx) (hj : SL own idx j) (kk : GE K Rm X cc nL own ret fin cells slots nx ls (.ref (xsa X j) :: st) σ ex) : GE K Rm X cc nL own ret fin cells slots pc ls st σ ex := by
  obtain ⟨hd, rfl⟩ := hd
  intro C r σ' hex H locs lsA hw hS hl
  obtain ⟨hZ, -⟩ := C.2.2.2.2.2.2.2.1 j hj.1
  rcases hj.2 with h | ⟨host, h⟩
  · exact va_gets C.1 C.2.1 hZ hS C.2.2.2.1 (C.2.2.2.2.1 _ h) (fun _ h9 => h9) hd (kk C r σ' hex H locs lsA hw hS hl)
  · exact va_getsN C.1 C.2.1 hZ hS C.2.2.2.1 (C.2.2.2.2.1 _ h) (fun _ h9 => h9) hd (kk C r σ' hex H locs lsA hw hS hl)
theorem ge_sald {j n : Nat} {i : Int32} (hd : Dc cc pc .iaload 1 nx) (hj : j < 6) (ht : sT j = .int) (hn : sL j = n) (kk : GE K Rm X cc nL own ret fin cells slots nx ls (.int (sV j (ix i)) :: st) σ ex) : GE K Rm X cc nL own ret fin cells slots pc ls (.int i :: .ref (xsa X j) :: st) σ (ck (inb i n) ex) := by
  obtain ⟨hd, rfl⟩ := hd
  subst hn
  intro C r σ' hex H locs lsA hw hS hl
  obtain ⟨hi, hex⟩ := ck_some hex
  obtain ⟨-, cell, h1, h2, h3, h4, h5, h6, h7⟩ := C.2.2.2.2.2.2.2.1 j hj
  have hv := inb_in hi
  have hlt : i.toNatClampNeg < sL j := Nat.not_le.mp fun q => hv (Or.inr q)
  rw [ht] at h2
  exact W.iald (v := .int (sV j (ix i))) C.1 C.2.1 (by rw [hS.2.1 _ (Array.getElem?_eq_some_iff.mp h1).1 h7]; exact h1) h2 h3 (fun z => hv (z.imp id (fun q => Nat.le_trans h4 q))) (h6 _ hlt) rfl rfl hd (kk C r σ' hex H locs lsA hw hS hl)
theorem ge_scald {j n : Nat} {i : Int32} (hd : Dc cc pc .caload 1 nx) (hj : j < 6) (ht : sT j = .char) (hn : sL j = n) (kk : GE K Rm X cc nL own ret fin cells slots nx ls (.int (sV j (ix i)) :: st) σ ex) : GE K Rm X cc nL own ret fin cells slots pc ls (.int i :: .ref (xsa X j) :: st) σ (ck (inb i n) ex) := by
  obtain ⟨hd, rfl⟩ := hd
  subst hn
  intro C r σ' hex H locs lsA hw hS hl
  obtain ⟨hi, hex⟩ := ck_some hex
  obtain ⟨-, cell, h1, h2, h3, h4, h5, h6, h7⟩ := C.2.2.2.2.2.2.2.1 j hj
  have hv := inb_in hi
  have hlt : i.toNatClampNeg < sL j := Nat.not_le.mp fun q => hv (Or.inr q)
  rw [ht] at h2
  exact W.cald (v := .int (sV j (ix i))) C.1 C.2.1 (by rw [hS.2.1 _ (Array.getElem?_eq_some_iff.mp h1).1 h7]; exact h1) h2 h3 (fun z => hv (z.imp id (fun q => Nat.le_trans h4 q))) (h6 _ hlt) rfl rfl hd (kk C r σ' hex H locs lsA hw hS hl)
/-- System.arraycopy of ints -/
def wlist (X : Xt) (σ : Mem) : va_W := (List.range (xn X)).map (fun k => (xad X k, cel X k (σ k)))
theorem wlist_get {k : Nat} (h : k < xn X) : (wlist X σ)[k]? = some (xad X k, cel X k (σ k)) := by
  unfold wlist; rw [List.getElem?_map, List.getElem?_range h]; rfl
theorem wlist_inv {k : Nat} {q : Nat × va_E} (h : (wlist X σ)[k]? = some q) : k < xn X ∧ q = (xad X k, cel X k (σ k)) := by
  have hk : k < xn X := by
    have := (List.getElem?_eq_some_iff.mp h).1
    simpa [wlist] using this
  rw [wlist_get hk] at h
  exact ⟨hk, (Option.some.inj h).symm⟩
theorem World.toP {H : Heap} (h : World X σ H) : va_P (xD X) vwCl (wlist X σ) H := by
  intro k q hk
  obtain ⟨h1, rfl⟩ := wlist_inv hk
  exact h k h1
theorem wlist_D (hX : Xok X) : va_D (xA X) (wlist X σ) := by
  refine ⟨fun i j p q hi hj e => ?_, fun k q hk => ?_⟩
  · obtain ⟨h1, rfl⟩ := wlist_inv hi
    obtain ⟨h2, rfl⟩ := wlist_inv hj
    exact hX.2.2 i j h1 h2 e
  · obtain ⟨h1, rfl⟩ := wlist_inv hk
    exact hX.2.1 k h1
theorem cpy_cell {k0 k1 sp dp n k' : Nat} (h : k' ≠ k1) : cpy σ k0 k1 sp dp n k' = σ k' := by simp [cpy, h]
def CP (own : String) (idx : Nat) : Prop := Cond.methodLink own idx arraycopyName ∈ TB ∧ Cond.native arraycopyName ∈ TB ∧ Cond.static arraycopyName ∈ TB ∧ Cond.initialized "java/lang/System" ∈ TB
theorem ge_acopy {idx k0 k1 n0 n1 : Nat} {sp dp n : Int32} {f : Mem → Option (R × Mem)} (hd : Dc cc pc (.invokestatic idx) 3 nx) (hc : CP own idx) (hk0 : Is 12 k0) (hk1 : Is 12 k1) (hn0 : al k0 = n0) (hn1 : al k1 = n1) (hfr : 1 ≤ Rm.frames) (hlo : (st.map fun v => v.category).sum + (nativeFrameWords "java/lang/System" "arraycopy" 5 + 11) ≤ Rm.locals)
    (kk : ∀ σ1, GE K Rm X cc nL own ret fin cells slots nx ls st σ1 (f σ1)) : GE K Rm X cc nL own ret fin cells slots pc ls (.int n :: .int dp :: .ref (xad X k1) :: .int sp :: .ref (xad X k0) :: st) σ (ck (cpb sp dp n n0 n1) (lt (cpy σ k0 k1 (ix sp) (ix dp) (ix n)) f)) := by
  obtain ⟨hd, rfl⟩ := hd
  subst hn0; subst hn1
  intro C r σ' hex H locs lsA hw hS hl
  obtain ⟨hi, hex⟩ := ck_some hex
  simp only [cpb, Bool.and_eq_true, decide_eq_true_eq] at hi
  obtain ⟨i1, i2, i3, i4, i5⟩ := hi
  have hX := C.2.2.2.2.2.2.1
  have hkn0 := Nat.lt_of_lt_of_le hk0.1 hX.1
  have hkn1 := Nat.lt_of_lt_of_le hk1.1 hX.1
  have ha0 : (wlist X σ)[k0]? = some (xad X k0, .inl (xac X 0, al k0, .inl (σ k0))) := by rw [wlist_get hkn0, cel_int hk0.2]
  have ha1 : (wlist X σ)[k1]? = some (xad X k1, .inl (xac X 0, al k1, .inl (σ k1))) := by rw [wlist_get hkn1, cel_int hk1.2]
  refine va_copyi (D := xD X) (ty := .int) C.1 C.2.1 (by rw [C.2.2.1]; exact hl.1.symm) C.2.2.2.1 (C.2.2.2.2.1 _ hc.1) (C.2.2.2.2.1 _ hc.2.1) (C.2.2.2.2.1 _ hc.2.2.1) (C.2.2.2.2.1 _ hc.2.2.2) C.2.2.2.2.2.1 hw.toP (wlist_D hX) hS k0 k1 0 0 ha0 ha1 rfl rfl rfl (Int32.not_lt.mpr i1) (Int32.not_lt.mpr i2) (Int32.not_lt.mpr i3) i4 i5 (fun _ _ => rfl) hfr hlo hd ?_
  intro H1 locs1 hP1 hD1 hS1
  refine kk (cpy σ k0 k1 (ix sp) (ix dp) (ix n)) C r σ' hex H1 locs1 lsA ?_ hS1 hl
  intro k hk
  by_cases e : k = k1
  · subst e
    have h := hP1 k (xad X k, .inl (xac X 0, al k, .inl (va_cpy (σ k0) (σ k) sp.toNatClampNeg dp.toNatClampNeg n.toNatClampNeg))) (List.getElem?_set_self (List.getElem?_eq_some_iff.mp ha1).1)
    rw [cel_int hk1.2]
    simpa [cpy] using h
  · rw [cpy_cell e]
    exact hP1 k _ (by rw [List.getElem?_set_ne (Ne.symm e)]; exact wlist_get hk)
/-- calls -/
def CM (own : String) (idx : Nat) (y : MethodName) (cc1 : ByteArray) (nL1 : Nat) (ret1 : Option FieldType) (n : Nat) : Prop := (Cond.methodLink own idx y ∈ TB ∨ ∃ host, Cond.methodLinkNest own idx y host ∈ TB) ∧ Cond.initialized y.cls ∈ TB ∧ Cond.code y cc1 nL1 ret1 ∈ TB ∧ y.cls ≠ "java/lang/invoke/MethodHandle" ∧ y.cls ≠ "java/lang/invoke/VarHandle" ∧ (parseMethodDescriptor y.desc).map (fun d => d.parameters.length) = some n
theorem CM.ws {own : String} {idx : Nat} {y : MethodName} {cc1 : ByteArray} {nL1 : Nat} {ret1 : Option FieldType} {n : Nat} (h : CM own idx y cc1 nL1 ret1 n) {args : Array Value} {s : State} (ht : ∀ w ∈ TB, w.before args s = true) : ∀ w ∈ wsQ y cc1 nL1 ret1, ∀ (a' : Array Value) (U : State), s.WarmedH U.vm → w.before a' U = true := by
  intro w hw
  rcases List.mem_cons.mp hw with rfl | hw
  · exact tbl_stay ht h.2.2.1
  · exact tbl_stay ht hw
theorem CM.par {own : String} {idx : Nat} {y : MethodName} {cc1 : ByteArray} {nL1 : Nat} {ret1 : Option FieldType} {n : Nat} (h : CM own idx y cc1 nL1 ret1 n) : ∀ sig, parseMethodDescriptor y.desc = some sig → n = sig.parameters.length := by
  intro sig hs
  have h2 := h.2.2.2.2.2
  rw [hs] at h2
  exact (Option.some.inj h2).symm
section ONE
variable {R1 : Type} {ι1 : R1 → Option Value} {y : MethodName} {cc1 : ByteArray} {nL1 n idx : Nat} {ret1 : Option FieldType} {rm1 : Room} {fe : Option (R1 × Mem)} {f : R1 → Mem → Option (R × Mem)}
/-- behind a call's run -/
theorem ge_ran {av : List Value} {st0 : List Value} (hrun : ∀ r1 σ1, fe = some (r1, σ1) → Cx K X cc nL own ret → ∀ (H : Heap) (locs : List Loc) (lsA : Array Slot), World X σ H → va_S (xA X) (ks K).heap H locs → lv_has lsA nL ls → va_Run (kp K) (kl K) (ke K) Rm (ks K) (km K) (ka K) (kb K) (kme K) (kc K) H locs cells slots rm1.cells rm1.slots (F0 (km K) pc lsA st0) st (Qs X ι1 r1 σ1 av.toArray) (xA X))
    (kk : ∀ r1 σ1, GE K Rm X cc nL own ret fin (cells + rm1.cells) (slots + rm1.slots) (pc + 3) ls ((ι1 r1).toList ++ st) σ1 (f r1 σ1)) : GE K Rm X cc nL own ret fin cells slots pc ls st0 σ (cl fe f) := by
  intro C r σ' hex H locs lsA hw hS hl
  obtain ⟨r1, σ1, hfe, hex⟩ := cl_some hex
  intro T hT X0
  obtain ⟨v, st₀, t, T', L, h0, X', hL, e1, e2, ⟨hv, hWd, hz, hk⟩, stp⟩ := hrun r1 σ1 hfe C H locs lsA hw hS hl T hT X0
  cases hv
  rw [h0] at hz hk
  obtain ⟨t2, a1, b1⟩ := kk r1 σ1 C r σ' hex T'.heap (locs ++ L) lsA (by rw [e1]; exact hWd.1) ⟨Nat.le_trans hS.1 (by rw [e1]; exact hz), fun q h1 h2 => by rw [e1, hk q (Nat.lt_of_lt_of_le h1 hS.1) h2]; exact hS.2.1 q h1 h2, fun q hq => by
      rcases List.mem_append.mp hq with h | h
      · exact hS.2.2 q h
      · exact hL q h⟩ hl T' rfl X'
  exact ⟨t2, stp t2 a1, b1⟩
theorem ge_callV {As : List Value} {st0 : List Value} {k ci N : Nat} {T : u_T} (hd : Dc cc pc (.invokevirtual idx) 3 nx) (hc : CM own idx y cc1 nL1 ret1 n) (hi : Cond.instanceMethod y ∈ TB) (hse : Cond.selects y.cls y y ∈ TB) (hk : Is ci k) (hcl : vwCl[ci]? = some (y.cls, T, N)) (hM : Ct (kl K) y cc1 nL1 ret1 rm1 ι1 X (.ref (xad X k) :: As) σ fe) (hn : As.length = n) (hst : st0 = As.reverse ++ .ref (xad X k) :: st) (hcat : (st.map fun v => v.category).sum ≤ 8) (hR : rm1.frames + 1 ≤ Rm.frames ∧ 8 + (nL1 + 11) + rm1.locals ≤ Rm.locals) (hf : cells + rm1.cells ≤ Rm.cells ∧ slots + rm1.slots ≤ Rm.slots)
    (kk : ∀ r1 σ1, GE K Rm X cc nL own ret fin (cells + rm1.cells) (slots + rm1.slots) nx ls ((ι1 r1).toList ++ st) σ1 (f r1 σ1)) : GE K Rm X cc nL own ret fin cells slots pc ls st0 σ (cl fe f) := by
  obtain ⟨hd, rfl⟩ := hd
  refine ge_ran (rm1 := rm1) (ι1 := ι1) (av := .ref (xad X k) :: As) ?_ kk
  intro r1 σ1 hfe C H locs lsA hw hS hl
  have hci : ci < 12 := (List.getElem?_eq_some_iff.mp hcl).1
  have hP := hw.at (Nat.lt_of_lt_of_le hk.1 C.2.2.2.2.2.2.1.1)
  rw [cel_obj hk.2 hci] at hP
  have hpre : PreV (ks K) H y.cls (xad X k) (va_Pc (.ref (xad X k) :: As) (Wd X σ)) As := ⟨fun a U g mk q => ⟨q.1, q.2.calling⟩, va_recv C.2.2.2.2.2.1 hP hcl (q0 := 0) rfl, fun U hU hWm => ⟨rfl, C.wd hw hS hU hWm.alike⟩⟩
  have ht := C.2.2.2.2.1
  rcases hc.1 with h1 | ⟨host, h1⟩
  · exact va_runV (Ts := TB) ⟨C.1, C.2.1, C.2.2.1, C.2.2.2.1, ht⟩ (hM r1 σ1 hfe) (C := y.cls) (bytes := cc1) (maxL := nL1) (ret := ret1) ⟨⟨rfl, rfl, hR.1, hR.2, hc.ws ht, List.mem_cons_self, ht _ hc.2.2.1, ht _ hc.2.1, ⟨hc.2.2.2.1, hc.2.2.2.2.1⟩, hc.par, ht _ h1⟩, ht _ hi, ht _ hse⟩ hpre rfl hn hl.1 hst (lv_room hcat) hd hf
  · exact va_runVN (Ts := TB) ⟨C.1, C.2.1, C.2.2.1, C.2.2.2.1, ht⟩ (hM r1 σ1 hfe) (C := y.cls) (host := host) (bytes := cc1) (maxL := nL1) (ret := ret1) ⟨⟨⟨rfl, rfl, hR.1, hR.2, hc.ws ht, List.mem_cons_self⟩, ht _ hc.2.2.1, ht _ hc.2.1, ⟨hc.2.2.2.1, hc.2.2.2.2.1⟩, hc.par, ht _ h1⟩, ht _ hi, ht _ hse⟩ hpre rfl hn hl.1 hst (lv_room hcat) hd hf
theorem ge_callS {As : List Value} {st0 : List Value} (hd : Dc cc pc (.invokestatic idx) 3 nx) (hc : CM own idx y cc1 nL1 ret1 n) (hi : Cond.static y ∈ TB) (hM : Ct (kl K) y cc1 nL1 ret1 rm1 ι1 X As σ fe) (hn : As.length = n) (hst : st0 = As.reverse ++ st) (hcat : (st.map fun v => v.category).sum ≤ 8) (hR : rm1.frames + 1 ≤ Rm.frames ∧ 8 + (nL1 + 11) + rm1.locals ≤ Rm.locals) (hf : cells + rm1.cells ≤ Rm.cells ∧ slots + rm1.slots ≤ Rm.slots)
    (kk : ∀ r1 σ1, GE K Rm X cc nL own ret fin (cells + rm1.cells) (slots + rm1.slots) nx ls ((ι1 r1).toList ++ st) σ1 (f r1 σ1)) : GE K Rm X cc nL own ret fin cells slots pc ls st0 σ (cl fe f) := by
  obtain ⟨hd, rfl⟩ := hd
  refine ge_ran (rm1 := rm1) (ι1 := ι1) (av := As) ?_ kk
  intro r1 σ1 hfe C H locs lsA hw hS hl
  have hpre : PreS (ks K) H (va_Pc As (Wd X σ)) As := ⟨fun a U g mk q => ⟨q.1, q.2.calling⟩, fun U hU hWm => ⟨rfl, C.wd hw hS hU hWm.alike⟩⟩
  have ht := C.2.2.2.2.1
  rcases hc.1 with h1 | ⟨host, h1⟩
  · exact va_runS (Ts := TB) ⟨C.1, C.2.1, C.2.2.1, C.2.2.2.1, ht⟩ (hM r1 σ1 hfe) (bytes := cc1) (maxL := nL1) (ret := ret1) ⟨⟨rfl, rfl, hR.1, hR.2, hc.ws ht, List.mem_cons_self, ht _ hc.2.2.1, ht _ hc.2.1, ⟨hc.2.2.2.1, hc.2.2.2.2.1⟩, hc.par, ht _ h1⟩, ht _ hi⟩ hpre rfl hn hl.1 hst (lv_room hcat) hd hf
  · exact va_runSN (Ts := TB) ⟨C.1, C.2.1, C.2.2.1, C.2.2.2.1, ht⟩ (hM r1 σ1 hfe) (host := host) (bytes := cc1) (maxL := nL1) (ret := ret1) ⟨⟨⟨rfl, rfl, hR.1, hR.2, hc.ws ht, List.mem_cons_self⟩, ht _ hc.2.2.1, ht _ hc.2.1, ⟨hc.2.2.2.1, hc.2.2.2.2.1⟩, hc.par, ht _ h1⟩, ht _ hi, trivial⟩ hpre rfl hn hl.1 hst (lv_room hcat) hd hf
end ONE
end CALLS
