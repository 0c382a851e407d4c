/-- the law's objects are made -/
def fL_pre (t0 : St) : Option (Unit × St) :=
  ck (kd t0.1 == 10) <|
  lt (nw t0) <| fun t1 =>
  clS (fX10_init t0.1 t1) <| fun _ t2 =>
  ck (kd t2.1 == 11) <|
  lt (nw t2) <| fun t3 =>
  clS (fX11_init t2.1 t3) <| fun _ t4 =>
  ck (t0.1 == 0 && t2.1 == 362) <|
  some ((), t4)
def Full (σ : Mem) : Prop := ∀ k j i, k < 385 → rs k j = some i → σ k j = 1
def GoodL (L : Nat) (xs : Nat → Int32) (t : St) : Prop := t.1 = 385 ∧ Full t.2 ∧ ∃ σ', fL_law_L18 L xs 513 t.2 0 = some (1, σ')
/-- what is left to show, without a machine -/
def PureOk : Prop := ∀ (L : Nat) (xs : Nat → Int32), L ≤ 2560 → ∃ t, fL_pre (0, fun _ _ => 0) = some ((), t) ∧ GoodL L xs t
