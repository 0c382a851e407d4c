/-! ===== the start, looked at ===== -/
def zrow (r : Nat) (l : List En) : Bool := l.all (fun e => match e with | .inl _ => true | .inr w => w.1 != r)
theorem zrow_ok {r : Nat} : ∀ {l : List En}, zrow r l = true → ∀ b, zmem l r b = 0
  | [], _, b => rfl
  | .inl k :: l, h, b => by
    unfold zrow at h
    rw [List.all_cons, Bool.and_eq_true] at h
    show (if r = k then 0 else zmem l r b) = 0
    split
    · rfl
    · exact zrow_ok h.2 b
  | .inr w :: l, h, b => by
    unfold zrow at h
    rw [List.all_cons, Bool.and_eq_true] at h
    have h1 : w.1 ≠ r := by simpa using h.1
    show sto (zmem l) w.1 w.2.1 w.2.2 r b = 0
    rw [sto_ne (fun e => h1 e.symm)]
    exact zrow_ok h.2 b
def zchk (l : List En) : Bool :=
  (List.range 385).all (fun k => (List.range 40).all (fun j => match rs k j with | none => true | some _ => zmem l k j == 1)) &&
  ([8, 276, 284, 285, 363, 375].all (fun r => zrow r l) &&
  ([(9, 1), (275, 3), (281, 1), (1, 1), (283, 3), (0, 13), (0, 12), (362, 8), (362, 11), (362, 13), (362, 15), (362, 18), (362, 26)].all (fun p => zmem l p.1 p.2 == 0) &&
  (zmem l 0 10 == -1 &&
  (List.range 12).all (fun i => (List.range 8).all (fun x => zmem l (11 + 22 * i + 1 + 5 + 2 * x) 0 == if 3 < x then 1 else 0)))))
def zgood (o : Option (Unit × Sz)) : Bool := match o with
  | some (_, s) => s.1 == 385 && zchk s.2
  | none => false
theorem zfin : zgood (zL_pre (0, [])) = true := by decide +kernel
