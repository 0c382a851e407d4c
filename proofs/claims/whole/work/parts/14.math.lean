def MM (own : String) (idx : Nat) (y : MethodName) (cc1 : ByteArray) (n : Nat) : Prop := Cond.methodLink own idx y ∈ TB ∧ Cond.static y ∈ TB ∧ Cond.initialized "java/lang/Math" ∈ TB ∧ Cond.code y cc1 n (some .int) ∈ TB
section MATHS
variable {R : Type} {K : Kt} {Rm : Room} {X : Xt} {cc : ByteArray} {nL : Nat} {own : String} {ret : Option FieldType} {fin : R → Mem → State → Prop} {cells slots pc nx : Nat} {ls : List (Nat × Value)} {st : List Value} {σ : Mem} {ex : Option (R × Mem)}
theorem ge_mmax {x y : Int32} {idx : Nat} (hm : MM own idx Lib.Math.max.name Lib.Math.max.code 2) (hd : Dc cc pc (.invokestatic idx) 3 nx) (hfr : 1 ≤ Rm.frames) (hlo : (st.map fun v => v.category).sum + 13 ≤ Rm.locals) (hf : cells ≤ Rm.cells ∧ slots ≤ Rm.slots) (kk : GE K Rm X cc nL own ret fin cells slots nx ls (.int (imax x y) :: st) σ ex) : GE K Rm X cc nL own ret fin cells slots pc ls (.int y :: .int x :: st) σ ex := by
  obtain ⟨hd, rfl⟩ := hd
  exact fun C r σ' hex H locs lsA hw hS hl => va_mmax C.1 C.2.1 (by rw [C.2.2.1]; exact hl.1.symm) C.2.2.2.1 (C.2.2.2.2.1 _ hm.1) (C.2.2.2.2.1 _ hm.2.1) (C.2.2.2.2.1 _ hm.2.2.1) (C.2.2.2.2.1 _ hm.2.2.2) hfr hlo hf.1 hf.2 hd (kk C r σ' hex H locs lsA hw hS hl)
theorem ge_mabs {x : Int32} {idx : Nat} (hm : MM own idx Lib.Math.abs.name Lib.Math.abs.code 1) (hd : Dc cc pc (.invokestatic idx) 3 nx) (hfr : 1 ≤ Rm.frames) (hlo : (st.map fun v => v.category).sum + 13 ≤ Rm.locals) (hf : cells ≤ Rm.cells ∧ slots ≤ Rm.slots) (kk : GE K Rm X cc nL own ret fin cells slots nx ls (.int (iabs x) :: st) σ ex) : GE K Rm X cc nL own ret fin cells slots pc ls (.int x :: st) σ ex := by
  obtain ⟨hd, rfl⟩ := hd
  exact fun C r σ' hex H locs lsA hw hS hl => va_mabs C.1 C.2.1 (by rw [C.2.2.1]; exact hl.1.symm) C.2.2.2.1 (C.2.2.2.2.1 _ hm.1) (C.2.2.2.2.1 _ hm.2.1) (C.2.2.2.2.1 _ hm.2.2.1) (C.2.2.2.2.1 _ hm.2.2.2) hfr hlo hf.1 hf.2 hd (kk C r σ' hex H locs lsA hw hS hl)
end MATHS
