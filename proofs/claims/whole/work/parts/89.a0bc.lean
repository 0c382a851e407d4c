/-- how many bits a set below 4096 has -/
def bcE (a0 : Int32) : Int32 :=
  lt (a0 - ((iushr a0 (1 : Int32)) &&& (1431655765 : Int32))) <| fun x1 =>
  lt ((x1 &&& (858993459 : Int32)) + ((iushr x1 (2 : Int32)) &&& (858993459 : Int32))) <| fun x2 =>
  lt ((x2 + (iushr x2 (4 : Int32))) &&& (252645135 : Int32)) <| fun x3 =>
  lt (x3 + (iushr x3 (8 : Int32))) <| fun x4 =>
  lt (x4 + (iushr x4 (16 : Int32))) <| fun x5 =>
  x5 &&& (63 : Int32)
theorem bcE_all : ∀ a, a < 64 → ∀ b, b < 64 → bcE (nI (64 * a + b)) = nI (cnt (bt (nI (64 * a + b))) 32) := by decide +kernel
theorem bitCount_ok (σ : Mem) {x : Int32} (h : isW x) : fJ6_bitCount_0f7a4 σ x = some (nI (cnt (bt x) 32), σ) := by
  obtain ⟨v, hv, rfl⟩ := isW_of h
  have := bcE_all (v / 64) (by omega) (v % 64) (by omega)
  rw [show 64 * (v / 64) + v % 64 = v by omega] at this
  rw [← this]; rfl
