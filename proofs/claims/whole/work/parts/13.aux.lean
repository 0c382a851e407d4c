/-! ===== shapes: which cell is what ===== -/
theorem sh0 : ∀ k, k < 385 → kd k = 0 → k + 1 < 385 ∧ kd (k + 1) = 12 := by decide +kernel
theorem sh1 : ∀ k, k < 385 → kd k = 1 → k + 3 < 385 ∧ (kd (k + 1) = 12 ∧ kd (k + 2) = 12 ∧ kd (k + 3) = 12) ∧ al (k + 1) = 32 ∧ al (k + 2) = 8 ∧ al (k + 3) = 32 := by decide +kernel
theorem sh2 : ∀ k, k < 385 → kd k = 2 → k + 1 < 385 ∧ kd (k + 1) = 12 ∧ al (k + 1) = 8 := by decide +kernel
theorem sh3 : ∀ k, k < 385 → kd k = 3 → k + 5 < 385 ∧ (kd (k + 1) = 14 ∧ kd (k + 2) = 12 ∧ kd (k + 3) = 12 ∧ kd (k + 4) = 12 ∧ kd (k + 5) = 12) ∧ al (k + 1) = 8 ∧ al (k + 2) = 8 ∧ al (k + 3) = 3 ∧ al (k + 4) = 3 ∧ al (k + 5) = 3 := by decide +kernel
theorem sh14 : ∀ k, k < 385 → kd k = 14 → al k = 8 ∧ ∀ j, j < 8 → k + 5 + 2 * j < 385 ∧ kd (k + 5 + 2 * j) = 2 := by decide +kernel
theorem shF : ∀ j, j < 12 → 11 + 22 * j < 385 ∧ kd (11 + 22 * j) = 3 := by decide +kernel
theorem shP : ∀ j, j < 16 → 298 + 4 * j < 385 ∧ kd (298 + 4 * j) = 1 := by decide +kernel
theorem is0_0 {k : Nat} (h : Is 0 k) : Is 12 (k + 1) := sh0 k h.1 h.2
theorem is1_0 {k : Nat} (h : Is 1 k) : Is 12 (k + 1) := ⟨by have := (sh1 k h.1 h.2).1; omega, (sh1 k h.1 h.2).2.1.1⟩
theorem is1_1 {k : Nat} (h : Is 1 k) : Is 12 (k + 2) := ⟨by have := (sh1 k h.1 h.2).1; omega, (sh1 k h.1 h.2).2.1.2.1⟩
theorem is1_2 {k : Nat} (h : Is 1 k) : Is 12 (k + 3) := ⟨by have := (sh1 k h.1 h.2).1; omega, (sh1 k h.1 h.2).2.1.2.2⟩
theorem al1_0 {k : Nat} (h : Is 1 k) : al (k + 1) = 32 := (sh1 k h.1 h.2).2.2.1
theorem al1_1 {k : Nat} (h : Is 1 k) : al (k + 2) = 8 := (sh1 k h.1 h.2).2.2.2.1
theorem al1_2 {k : Nat} (h : Is 1 k) : al (k + 3) = 32 := (sh1 k h.1 h.2).2.2.2.2
theorem is2_1 {k : Nat} (h : Is 2 k) : Is 12 (k + 1) := ⟨(sh2 k h.1 h.2).1, (sh2 k h.1 h.2).2.1⟩
theorem al2_1 {k : Nat} (h : Is 2 k) : al (k + 1) = 8 := (sh2 k h.1 h.2).2.2
theorem is3_4 {k : Nat} (h : Is 3 k) : Is 14 (k + 1) := ⟨by have := (sh3 k h.1 h.2).1; omega, (sh3 k h.1 h.2).2.1.1⟩
theorem is3_5 {k : Nat} (h : Is 3 k) : Is 12 (k + 2) := ⟨by have := (sh3 k h.1 h.2).1; omega, (sh3 k h.1 h.2).2.1.2.1⟩
theorem is3_7 {k : Nat} (h : Is 3 k) : Is 12 (k + 3) := ⟨by have := (sh3 k h.1 h.2).1; omega, (sh3 k h.1 h.2).2.1.2.2.1⟩
theorem is3_8 {k : Nat} (h : Is 3 k) : Is 12 (k + 4) := ⟨by have := (sh3 k h.1 h.2).1; omega, (sh3 k h.1 h.2).2.1.2.2.2.1⟩
theorem is3_9 {k : Nat} (h : Is 3 k) : Is 12 (k + 5) := ⟨(sh3 k h.1 h.2).1, (sh3 k h.1 h.2).2.1.2.2.2.2⟩
theorem al3_4 {k : Nat} (h : Is 3 k) : al (k + 1) = 8 := (sh3 k h.1 h.2).2.2.1
theorem al3_5 {k : Nat} (h : Is 3 k) : al (k + 2) = 8 := (sh3 k h.1 h.2).2.2.2.1
theorem al3_7 {k : Nat} (h : Is 3 k) : al (k + 3) = 3 := (sh3 k h.1 h.2).2.2.2.2.1
theorem al3_8 {k : Nat} (h : Is 3 k) : al (k + 4) = 3 := (sh3 k h.1 h.2).2.2.2.2.2.1
theorem al3_9 {k : Nat} (h : Is 3 k) : al (k + 5) = 3 := (sh3 k h.1 h.2).2.2.2.2.2.2
theorem inb_lt {i : Int32} {n : Nat} (h : inb i n = true) : ix i < n := by
  simp only [inb, Bool.and_eq_true, decide_eq_true_eq] at h
  exact h.2
theorem isF {i : Int32} (h : inb i 12 = true) : Is 3 (11 + 22 * ix i) := shF _ (inb_lt h)
theorem isP {i : Int32} (h : inb i 16 = true) : Is 1 (298 + 4 * ix i) := shP _ (inb_lt h)
theorem isD {k : Nat} {i : Int32} (hk : Is 14 k) (h : inb i 8 = true) : Is 2 (k + 5 + 2 * ix i) := (sh14 k hk.1 hk.2).2 _ (inb_lt h)
theorem isO_is {ci k : Nat} (h : isO ci k = true) : Is ci k := by
  simp only [isO, Bool.and_eq_true, decide_eq_true_eq, beq_iff_eq] at h
  exact h
theorem sw_out {x : Int32} (lo : Int) (n : Nat) {hi : Int} (h : hi = lo + n - 1) (hlo : -2147483648 ≤ lo ∧ lo + n ≤ 2147483647) (hx : ∀ i : Nat, i < n → ¬ x = Int32.ofInt (lo + i)) : x.toInt < lo ∨ hi < x.toInt := by
  by_cases h1 : x.toInt < lo
  · exact Or.inl h1
  · by_cases h2 : hi < x.toInt
    · exact Or.inr h2
    · refine absurd ?_ (hx (x.toInt - lo).toNat (by omega))
      apply Int32.toInt_inj.mp
      rw [Int32.toInt_ofInt_of_le (by omega) (by omega)]
      omega
theorem lsw_out2 {x a b : Int32} {o1 o2 d : Int} (h1 : ¬ x = a) (h2 : ¬ x = b) : Op.lookupswitch.offset [(a.toInt, o1), (b.toInt, o2)] d x.toInt = d := by
  have e1 : ¬ a.toInt = x.toInt := fun z => h1 (Int32.toInt_inj.mp z.symm)
  have e2 : ¬ b.toInt = x.toInt := fun z => h2 (Int32.toInt_inj.mp z.symm)
  simp [Op.lookupswitch.offset, e1, e2]
section AUX
variable {R : Type} {K : Kt} {Rm : Room} {X : Xt} {cc : ByteArray} {nL : Nat} {own : String} {ret : Option FieldType} {fin : R → Mem → State → Prop} {cells slots pc nx : Nat} {ls : List (Nat × Value)} {st : List Value} {σ : Mem} {ex : Option (R × Mem)}
theorem is_10' : Is 13 10 := ⟨by decide, by decide⟩
theorem is_7' : Is 15 7 := ⟨by decide, by decide⟩
theorem ge_aaldF {i : Int32} (hd : Dc cc pc .aaload 1 nx) (kk : inb i 12 = true → GE K Rm X cc nL own ret fin cells slots nx ls (.ref (xad X (11 + 22 * ix i)) :: st) σ ex) : GE K Rm X cc nL own ret fin cells slots pc ls (.int i :: .ref (xad X 10) :: st) σ (ck (inb i 12) ex) :=
  ge_aald (t := 13) (Cn := RX3) (g := fun j => 11 + 22 * j) hd is_10' (by decide) rfl (by decide) (fun j hj => by show (if j < 12 then some (11 + 22 * j) else none) = _; rw [if_pos hj]) kk
theorem ge_aaldP {i : Int32} (hd : Dc cc pc .aaload 1 nx) (kk : inb i 16 = true → GE K Rm X cc nL own ret fin cells slots nx ls (.ref (xad X (298 + 4 * ix i)) :: st) σ ex) : GE K Rm X cc nL own ret fin cells slots pc ls (.int i :: .ref (xad X 7) :: st) σ (ck (inb i 16) ex) :=
  ge_aald (t := 15) (Cn := RX1) (g := fun j => 298 + 4 * j) hd is_7' (by decide) rfl (by decide) (fun j hj => by show (if j < 16 then some (298 + 4 * j) else none) = _; rw [if_pos hj]) kk
theorem ge_aaldD {i : Int32} {k : Nat} (hd : Dc cc pc .aaload 1 nx) (hk : Is 14 k) (kk : inb i 8 = true → GE K Rm X cc nL own ret fin cells slots nx ls (.ref (xad X (k + 5 + 2 * ix i)) :: st) σ ex) : GE K Rm X cc nL own ret fin cells slots pc ls (.int i :: .ref (xad X k) :: st) σ (ck (inb i 8) ex) :=
  ge_aald (t := 14) (Cn := RX2) (g := fun j => k + 5 + 2 * j) hd hk (by decide) rfl (sh14 k hk.1 hk.2).1 (fun j hj => by show (if j < 8 then some (k + 5 + 2 * j) else none) = _; rw [if_pos hj]) kk
def CMV (own : String) (idx : Nat) (y : MethodName) (cc1 : ByteArray) (nL1 : Nat) (ret1 : Option FieldType) (n : Nat) : Prop := CM own idx y cc1 nL1 ret1 n ∧ Cond.instanceMethod y ∈ TB ∧ Cond.selects y.cls y y ∈ TB
def CMS (own : String) (idx : Nat) (y : MethodName) (cc1 : ByteArray) (nL1 : Nat) (ret1 : Option FieldType) (n : Nat) : Prop := CM own idx y cc1 nL1 ret1 n ∧ Cond.static y ∈ TB
section ONE
variable {y : MethodName} {cc1 : ByteArray} {nL1 n idx : Nat} {ret1 : Option FieldType} {rm1 : Room} {As : List Value} {st0 : List Value} {k ci N : Nat} {T : u_T}
theorem ge_callVi {fe : Option (Int32 × Mem)} {f : Int32 → Mem → Option (R × Mem)} (hc : CMV own idx y cc1 nL1 ret1 n) (hd : Dc cc pc (.invokevirtual idx) 3 nx) (hk : Is ci k) (hcl : vwCl[ci]? = some (y.cls, T, N)) (hM : Ct (kl K) y cc1 nL1 ret1 rm1 ιI X (.ref (xad X k) :: As) σ fe) (hn : As.length = n) (hst : st0 = As.reverse ++ .ref (xad X k) :: st) (hcat : (st.map fun v => v.category).sum ≤ 8) (hR : rm1.frames + 1 ≤ Rm.frames ∧ 8 + (nL1 + 11) + rm1.locals ≤ Rm.locals) (hf : cells + rm1.cells ≤ Rm.cells ∧ slots + rm1.slots ≤ Rm.slots)
    (kk : ∀ r1 σ1, GE K Rm X cc nL own ret fin (cells + rm1.cells) (slots + rm1.slots) nx ls (.int r1 :: st) σ1 (f r1 σ1)) : GE K Rm X cc nL own ret fin cells slots pc ls st0 σ (cl fe f) :=
  ge_callV hd hc.1 hc.2.1 hc.2.2 hk hcl hM hn hst hcat hR hf kk
theorem ge_callVv {fe : Option (Unit × Mem)} {f : Unit → Mem → Option (R × Mem)} (hc : CMV own idx y cc1 nL1 ret1 n) (hd : Dc cc pc (.invokevirtual idx) 3 nx) (hk : Is ci k) (hcl : vwCl[ci]? = some (y.cls, T, N)) (hM : Ct (kl K) y cc1 nL1 ret1 rm1 ιV X (.ref (xad X k) :: As) σ fe) (hn : As.length = n) (hst : st0 = As.reverse ++ .ref (xad X k) :: st) (hcat : (st.map fun v => v.category).sum ≤ 8) (hR : rm1.frames + 1 ≤ Rm.frames ∧ 8 + (nL1 + 11) + rm1.locals ≤ Rm.locals) (hf : cells + rm1.cells ≤ Rm.cells ∧ slots + rm1.slots ≤ Rm.slots)
    (kk : ∀ σ1, GE K Rm X cc nL own ret fin (cells + rm1.cells) (slots + rm1.slots) nx ls st σ1 (f () σ1)) : GE K Rm X cc nL own ret fin cells slots pc ls st0 σ (cl fe f) :=
  ge_callV hd hc.1 hc.2.1 hc.2.2 hk hcl hM hn hst hcat hR hf (fun _ σ1 => kk σ1)
theorem ge_callVl {fe : Option (Int64 × Mem)} {f : Int64 → Mem → Option (R × Mem)} (hc : CMV own idx y cc1 nL1 ret1 n) (hd : Dc cc pc (.invokevirtual idx) 3 nx) (hk : Is ci k) (hcl : vwCl[ci]? = some (y.cls, T, N)) (hM : Ct (kl K) y cc1 nL1 ret1 rm1 ιL X (.ref (xad X k) :: As) σ fe) (hn : As.length = n) (hst : st0 = As.reverse ++ .ref (xad X k) :: st) (hcat : (st.map fun v => v.category).sum ≤ 8) (hR : rm1.frames + 1 ≤ Rm.frames ∧ 8 + (nL1 + 11) + rm1.locals ≤ Rm.locals) (hf : cells + rm1.cells ≤ Rm.cells ∧ slots + rm1.slots ≤ Rm.slots)
    (kk : ∀ r1 σ1, GE K Rm X cc nL own ret fin (cells + rm1.cells) (slots + rm1.slots) nx ls (.long r1 :: st) σ1 (f r1 σ1)) : GE K Rm X cc nL own ret fin cells slots pc ls st0 σ (cl fe f) :=
  ge_callV hd hc.1 hc.2.1 hc.2.2 hk hcl hM hn hst hcat hR hf kk
theorem ge_callVr {fe : Option (Nat × Mem)} {f : Nat → Mem → Option (R × Mem)} {ct : Nat} (hc : CMV own idx y cc1 nL1 ret1 n) (hd : Dc cc pc (.invokevirtual idx) 3 nx) (hk : Is ci k) (hcl : vwCl[ci]? = some (y.cls, T, N)) (hM : Ct (kl K) y cc1 nL1 ret1 rm1 (ιR X) X (.ref (xad X k) :: As) σ fe) (hn : As.length = n) (hst : st0 = As.reverse ++ .ref (xad X k) :: st) (hcat : (st.map fun v => v.category).sum ≤ 8) (hR : rm1.frames + 1 ≤ Rm.frames ∧ 8 + (nL1 + 11) + rm1.locals ≤ Rm.locals) (hf : cells + rm1.cells ≤ Rm.cells ∧ slots + rm1.slots ≤ Rm.slots)
    (kk : ∀ r1 σ1, Is ct r1 → GE K Rm X cc nL own ret fin (cells + rm1.cells) (slots + rm1.slots) nx ls (.ref (xad X r1) :: st) σ1 (f r1 σ1)) : GE K Rm X cc nL own ret fin cells slots pc ls st0 σ (cl fe (fun r1 σ1 => ck (isO ct r1) (f r1 σ1))) := by
  refine ge_callV hd hc.1 hc.2.1 hc.2.2 hk hcl hM hn hst hcat hR hf (fun r1 σ1 => ?_)
  intro C r σ' hex
  obtain ⟨h1, h2⟩ := ck_some hex
  exact kk r1 σ1 (isO_is h1) C r σ' h2
theorem ge_callSi {fe : Option (Int32 × Mem)} {f : Int32 → Mem → Option (R × Mem)} (hc : CMS own idx y cc1 nL1 ret1 n) (hd : Dc cc pc (.invokestatic idx) 3 nx) (hM : Ct (kl K) y cc1 nL1 ret1 rm1 ιI X As σ fe) (hn : As.length = n) (hst : st0 = As.reverse ++ st) (hcat : (st.map fun v => v.category).sum ≤ 8) (hR : rm1.frames + 1 ≤ Rm.frames ∧ 8 + (nL1 + 11) + rm1.locals ≤ Rm.locals) (hf : cells + rm1.cells ≤ Rm.cells ∧ slots + rm1.slots ≤ Rm.slots)
    (kk : ∀ r1 σ1, GE K Rm X cc nL own ret fin (cells + rm1.cells) (slots + rm1.slots) nx ls (.int r1 :: st) σ1 (f r1 σ1)) : GE K Rm X cc nL own ret fin cells slots pc ls st0 σ (cl fe f) :=
  ge_callS hd hc.1 hc.2 hM hn hst hcat hR hf kk
theorem ge_callSv {fe : Option (Unit × Mem)} {f : Unit → Mem → Option (R × Mem)} (hc : CMS own idx y cc1 nL1 ret1 n) (hd : Dc cc pc (.invokestatic idx) 3 nx) (hM : Ct (kl K) y cc1 nL1 ret1 rm1 ιV X As σ fe) (hn : As.length = n) (hst : st0 = As.reverse ++ st) (hcat : (st.map fun v => v.category).sum ≤ 8) (hR : rm1.frames + 1 ≤ Rm.frames ∧ 8 + (nL1 + 11) + rm1.locals ≤ Rm.locals) (hf : cells + rm1.cells ≤ Rm.cells ∧ slots + rm1.slots ≤ Rm.slots)
    (kk : ∀ σ1, GE K Rm X cc nL own ret fin (cells + rm1.cells) (slots + rm1.slots) nx ls st σ1 (f () σ1)) : GE K Rm X cc nL own ret fin cells slots pc ls st0 σ (cl fe f) :=
  ge_callS hd hc.1 hc.2 hM hn hst hcat hR hf (fun _ σ1 => kk σ1)
theorem z0 {rm1 : Room} {c s : Nat} {P : Nat → Nat → Prop} (h : rm1.cells = 0 ∧ rm1.slots = 0) (hp : P c s) : P (c + rm1.cells) (s + rm1.slots) := by rw [h.1, h.2]; exact hp
theorem ge_callVi0 {fe : Option (Int32 × Mem)} {f : Int32 → Mem → Option (R × Mem)} (hc : CMV own idx y cc1 nL1 ret1 n) (hd : Dc cc pc (.invokevirtual idx) 3 nx) (hk : Is ci k) (hcl : vwCl[ci]? = some (y.cls, T, N)) (hM : Ct (kl K) y cc1 nL1 ret1 rm1 ιI X (.ref (xad X k) :: As) σ fe) (hn : As.length = n) (hst : st0 = As.reverse ++ .ref (xad X k) :: st) (hcat : (st.map fun v => v.category).sum ≤ 8) (hR : rm1.frames + 1 ≤ Rm.frames ∧ 8 + (nL1 + 11) + rm1.locals ≤ Rm.locals) (h0 : rm1.cells = 0 ∧ rm1.slots = 0) (hf : cells ≤ Rm.cells ∧ slots ≤ Rm.slots)
    (kk : ∀ r1 σ1, GE K Rm X cc nL own ret fin cells slots nx ls (.int r1 :: st) σ1 (f r1 σ1)) : GE K Rm X cc nL own ret fin cells slots pc ls st0 σ (cl fe f) :=
  ge_callVi hc hd hk hcl hM hn hst hcat hR (z0 (P := fun a b => a ≤ Rm.cells ∧ b ≤ Rm.slots) h0 hf) (fun r1 σ1 => z0 (P := fun a b => GE K Rm X cc nL own ret fin a b nx ls (.int r1 :: st) σ1 (f r1 σ1)) h0 (kk r1 σ1))
theorem ge_callVv0 {fe : Option (Unit × Mem)} {f : Unit → Mem → Option (R × Mem)} (hc : CMV own idx y cc1 nL1 ret1 n) (hd : Dc cc pc (.invokevirtual idx) 3 nx) (hk : Is ci k) (hcl : vwCl[ci]? = some (y.cls, T, N)) (hM : Ct (kl K) y cc1 nL1 ret1 rm1 ιV X (.ref (xad X k) :: As) σ fe) (hn : As.length = n) (hst : st0 = As.reverse ++ .ref (xad X k) :: st) (hcat : (st.map fun v => v.category).sum ≤ 8) (hR : rm1.frames + 1 ≤ Rm.frames ∧ 8 + (nL1 + 11) + rm1.locals ≤ Rm.locals) (h0 : rm1.cells = 0 ∧ rm1.slots = 0) (hf : cells ≤ Rm.cells ∧ slots ≤ Rm.slots)
    (kk : ∀ σ1, GE K Rm X cc nL own ret fin cells slots nx ls st σ1 (f () σ1)) : GE K Rm X cc nL own ret fin cells slots pc ls st0 σ (cl fe f) :=
  ge_callVv hc hd hk hcl hM hn hst hcat hR (z0 (P := fun a b => a ≤ Rm.cells ∧ b ≤ Rm.slots) h0 hf) (fun σ1 => z0 (P := fun a b => GE K Rm X cc nL own ret fin a b nx ls st σ1 (f () σ1)) h0 (kk σ1))
theorem ge_callVr0 {fe : Option (Nat × Mem)} {f : Nat → Mem → Option (R × Mem)} {ct : Nat} (hc : CMV own idx y cc1 nL1 ret1 n) (hd : Dc cc pc (.invokevirtual idx) 3 nx) (hk : Is ci k) (hcl : vwCl[ci]? = some (y.cls, T, N)) (hM : Ct (kl K) y cc1 nL1 ret1 rm1 (ιR X) X (.ref (xad X k) :: As) σ fe) (hn : As.length = n) (hst : st0 = As.reverse ++ .ref (xad X k) :: st) (hcat : (st.map fun v => v.category).sum ≤ 8) (hR : rm1.frames + 1 ≤ Rm.frames ∧ 8 + (nL1 + 11) + rm1.locals ≤ Rm.locals) (h0 : rm1.cells = 0 ∧ rm1.slots = 0) (hf : cells ≤ Rm.cells ∧ slots ≤ Rm.slots)
    (kk : ∀ r1 σ1, Is ct r1 → GE K Rm X cc nL own ret fin cells slots nx ls (.ref (xad X r1) :: st) σ1 (f r1 σ1)) : GE K Rm X cc nL own ret fin cells slots pc ls st0 σ (cl fe (fun r1 σ1 => ck (isO ct r1) (f r1 σ1))) :=
  ge_callVr hc hd hk hcl hM hn hst hcat hR (z0 (P := fun a b => a ≤ Rm.cells ∧ b ≤ Rm.slots) h0 hf) (fun r1 σ1 hr => z0 (P := fun a b => GE K Rm X cc nL own ret fin a b nx ls (.ref (xad X r1) :: st) σ1 (f r1 σ1)) h0 (kk r1 σ1 hr))
theorem ge_callSi0 {fe : Option (Int32 × Mem)} {f : Int32 → Mem → Option (R × Mem)} (hc : CMS own idx y cc1 nL1 ret1 n) (hd : Dc cc pc (.invokestatic idx) 3 nx) (hM : Ct (kl K) y cc1 nL1 ret1 rm1 ιI X As σ fe) (hn : As.length = n) (hst : st0 = As.reverse ++ st) (hcat : (st.map fun v => v.category).sum ≤ 8) (hR : rm1.frames + 1 ≤ Rm.frames ∧ 8 + (nL1 + 11) + rm1.locals ≤ Rm.locals) (h0 : rm1.cells = 0 ∧ rm1.slots = 0) (hf : cells ≤ Rm.cells ∧ slots ≤ Rm.slots)
    (kk : ∀ r1 σ1, GE K Rm X cc nL own ret fin cells slots nx ls (.int r1 :: st) σ1 (f r1 σ1)) : GE K Rm X cc nL own ret fin cells slots pc ls st0 σ (cl fe f) :=
  ge_callSi hc hd hM hn hst hcat hR (z0 (P := fun a b => a ≤ Rm.cells ∧ b ≤ Rm.slots) h0 hf) (fun r1 σ1 => z0 (P := fun a b => GE K Rm X cc nL own ret fin a b nx ls (.int r1 :: st) σ1 (f r1 σ1)) h0 (kk r1 σ1))
theorem ge_callSv0 {fe : Option (Unit × Mem)} {f : Unit → Mem → Option (R × Mem)} (hc : CMS own idx y cc1 nL1 ret1 n) (hd : Dc cc pc (.invokestatic idx) 3 nx) (hM : Ct (kl K) y cc1 nL1 ret1 rm1 ιV X As σ fe) (hn : As.length = n) (hst : st0 = As.reverse ++ st) (hcat : (st.map fun v => v.category).sum ≤ 8) (hR : rm1.frames + 1 ≤ Rm.frames ∧ 8 + (nL1 + 11) + rm1.locals ≤ Rm.locals) (h0 : rm1.cells = 0 ∧ rm1.slots = 0) (hf : cells ≤ Rm.cells ∧ slots ≤ Rm.slots)
    (kk : ∀ σ1, GE K Rm X cc nL own ret fin cells slots nx ls st σ1 (f () σ1)) : GE K Rm X cc nL own ret fin cells slots pc ls st0 σ (cl fe f) :=
  ge_callSv hc hd hM hn hst hcat hR (z0 (P := fun a b => a ≤ Rm.cells ∧ b ≤ Rm.slots) h0 hf) (fun σ1 => z0 (P := fun a b => GE K Rm X cc nL own ret fin a b nx ls st σ1 (f () σ1)) h0 (kk σ1))
end ONE
end AUX
