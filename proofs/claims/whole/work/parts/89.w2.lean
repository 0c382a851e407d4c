/-! ===== all of it ===== -/
def fmZ : Fm := (0, fun _ => 0, fun _ => 0, 0, fun _ => (0, 0, 0))
def ddZ : Dd := (fun _ => 0, fun _ => 0, 0, fun _ => 0)
def abZ : Ab := (0, fun _ => fmZ, 0, fun _ => 0, 0, fun _ => 0, ddZ, 0, fun _ => ddZ, none, fun _ => 0)
theorem ddZ_ok : Dok ddZ := ⟨fun _ _ => by show 0 < 4096; decide, by show 0 ≤ 32; decide, fun _ _ => by show (-128 : Int32) ≤ 0 ∧ (0 : Int32) ≤ 255; decide⟩
theorem rsk_far {ci k j : Nat} (h : 40 ≤ j) : rsk ci k j = none := by
  unfold rsk
  split <;> first | rfl | omega | (rw [if_neg (by omega)])
theorem pure_fin : PureOk := by
  intro L xs hL
  have hz := zfin
  cases hp : zL_pre (0, []) with
  | none => rw [hp] at hz; cases hz
  | some y =>
    obtain ⟨u, s⟩ := y
    rw [hp] at hz
    have hz' : (s.1 == 385 && zchk s.2) = true := hz
    rw [Bool.and_eq_true] at hz'
    obtain ⟨z1, z2⟩ := hz'
    have z1 : s.1 = 385 := by simpa using z1
    unfold zchk at z2
    simp only [Bool.and_eq_true] at z2
    obtain ⟨c1, c2, c3, c4, c5⟩ := z2
    rw [List.all_eq_true] at c1 c2 c3 c5
    have row : ∀ r, r ∈ [8, 276, 284, 285, 363, 375] → ∀ b, zmem s.2 r b = 0 := fun r hr => zrow_ok (c2 r hr)
    have slot : ∀ k j, (k, j) ∈ [(9, 1), (275, 3), (281, 1), (1, 1), (283, 3), (0, 13), (0, 12), (362, 8), (362, 11), (362, 13), (362, 15), (362, 18), (362, 26)] → zmem s.2 k j = 0 := fun k j h => by
      have := c3 (k, j) h
      simpa using this
    have k10 : zmem s.2 0 10 = -1 := by simpa using c4
    have sg : CSg (zmem s.2) := fun i l hi hl => by
      have := c5 i (List.mem_range.mpr hi)
      rw [List.all_eq_true] at this
      have := this l (List.mem_range.mpr hl)
      simpa using this
    refine ⟨zf s, ?_, z1, ?_, law_ok hL ⟨abZ, ?_, ?_, ?_⟩⟩
    · have := zhpre (0, [])
      rw [hp] at this
      exact this
    · intro k j i hk hr
      by_cases hj : j < 40
      · have := c1 k (List.mem_range.mpr hk)
        rw [List.all_eq_true] at this
        have := this j (List.mem_range.mpr hj)
        rw [hr] at this
        show zmem s.2 k j = 1
        simpa using this
      · unfold rs at hr
        rw [rsk_far (by omega)] at hr
        cases hr
    · refine ⟨⟨⟨slot 9 1 (by simp), Nat.zero_le _, fun i hi => absurd hi (Nat.not_lt_zero i)⟩, fun i hi => absurd hi (Nat.not_lt_zero i), fun w _ => Or.inl (row 276 (by simp) w)⟩, sg, Or.inl (slot 275 3 (by simp)), ⟨slot 281 1 (by simp), Nat.zero_le _, fun i hi => absurd hi (Nat.not_lt_zero i)⟩, ⟨slot 1 1 (by simp), Nat.zero_le _, fun i hi => absurd hi (Nat.not_lt_zero i)⟩, ⟨⟨fun i _ => row 284 (by simp) i, fun i _ => row 285 (by simp) i, slot 283 3 (by simp), fun i hi => absurd hi (Nat.not_lt_zero i)⟩, ddZ_ok⟩, ⟨slot 0 13 (by simp), Nat.zero_le _, 0, by decide, slot 0 12 (by simp), fun i hi => absurd hi (Nat.not_lt_zero i)⟩, k10, fun i _ => row 8 (by simp) i⟩
    · refine ⟨⟨slot 362 8 (by simp), Nat.zero_le _, fun i hi => absurd hi (Nat.not_lt_zero i)⟩, Or.inl (slot 362 11 (by simp)), ⟨slot 362 13 (by simp), Nat.zero_le _, fun i hi => absurd hi (Nat.not_lt_zero i)⟩, ⟨slot 362 15 (by simp), Nat.zero_le _, fun i hi => absurd hi (Nat.not_lt_zero i)⟩, ⟨⟨fun i _ => row 375 (by simp) _, fun i _ => row 375 (by simp) _, row 375 (by simp) _, fun i hi => absurd hi (Nat.not_lt_zero i)⟩, ddZ_ok⟩, ⟨slot 362 18 (by simp), Nat.zero_le _, fun i hi => absurd hi (Nat.not_lt_zero i)⟩, slot 362 26 (by simp), fun i _ => row 363 (by simp) i⟩
    · intro i hi
      exact absurd hi (Nat.not_lt_zero i)
