theorem sta_0 {args : Array Value} {s : State} (hs : ∀ c ∈ flatC (Jvm.Cond.and given_1 narrow_1), c.before args s = true) (hts : ∀ w ∈ lw_tbl, w.before args s = true) : ∃ t : Nat, va_Z (sC 0) (sN 0) (sD 0) (.ref t) (fun q => s.heap.size ≤ q) s s.heap ∧ va_T (sT 0) t (sL 0) (fun i => .int (sV 0 i)) (fun q => s.heap.size ≤ q) s s.heap := by
  obtain ⟨t, h1, h2⟩ := va_Tof (tm := (.static "DecoderForge" "KIND_ABOVE" "[I")) (ty := .int) (N := 7) (f := fun i => .int (sV 0 i)) (A := fun q => s.heap.size ≤ q) (by decide) (hs (.arrayOf (.static "DecoderForge" "KIND_ABOVE" "[I") .int) (by decide +kernel)) (va_eqt (hs (.eq (.length (.static "DecoderForge" "KIND_ABOVE" "[I")) (.int 7)) (by decide +kernel))) (fun i hi => by
    match i, hi with
    | 0, _ => exact va_eqt (hs (.eq (.elem (.static "DecoderForge" "KIND_ABOVE" "[I") (.int 0)) (.int (-1))) (by decide +kernel))
    | 1, _ => exact va_eqt (hs (.eq (.elem (.static "DecoderForge" "KIND_ABOVE" "[I") (.int 1)) (.int (0))) (by decide +kernel))
    | 2, _ => exact va_eqt (hs (.eq (.elem (.static "DecoderForge" "KIND_ABOVE" "[I") (.int 2)) (.int (0))) (by decide +kernel))
    | 3, _ => exact va_eqt (hs (.eq (.elem (.static "DecoderForge" "KIND_ABOVE" "[I") (.int 3)) (.int (1))) (by decide +kernel))
    | 4, _ => exact va_eqt (hs (.eq (.elem (.static "DecoderForge" "KIND_ABOVE" "[I") (.int 4)) (.int (2))) (by decide +kernel))
    | 5, _ => exact va_eqt (hs (.eq (.elem (.static "DecoderForge" "KIND_ABOVE" "[I") (.int 5)) (.int (0))) (by decide +kernel))
    | 6, _ => exact va_eqt (hs (.eq (.elem (.static "DecoderForge" "KIND_ABOVE" "[I") (.int 6)) (.int (3))) (by decide +kernel))) (fun a h => Nat.not_le.mpr h)
  exact ⟨t, va_Zof (hts (.laysStatic "DecoderForge" "KIND_ABOVE" "[I") (by decide +kernel)) (hts (.initialized "DecoderForge") (by decide +kernel)) h1 (fun a h => Nat.not_le.mpr h), h2⟩
theorem sta_1 {args : Array Value} {s : State} (hs : ∀ c ∈ flatC (Jvm.Cond.and given_1 narrow_1), c.before args s = true) (hts : ∀ w ∈ lw_tbl, w.before args s = true) : ∃ t : Nat, va_Z (sC 1) (sN 1) (sD 1) (.ref t) (fun q => s.heap.size ≤ q) s s.heap ∧ va_T (sT 1) t (sL 1) (fun i => .int (sV 1 i)) (fun q => s.heap.size ≤ q) s s.heap := by
  obtain ⟨t, h1, h2⟩ := va_Tof (tm := (.static "DecoderForge" "KIND_SIGNS" "[C")) (ty := .char) (N := 7) (f := fun i => .int (sV 1 i)) (A := fun q => s.heap.size ≤ q) (by decide) (hs (.arrayOf (.static "DecoderForge" "KIND_SIGNS" "[C") .char) (by decide +kernel)) (va_eqt (hs (.eq (.length (.static "DecoderForge" "KIND_SIGNS" "[C")) (.int 7)) (by decide +kernel))) (fun i hi => by
    match i, hi with
    | 0, _ => exact va_eqt (hs (.eq (.elem (.static "DecoderForge" "KIND_SIGNS" "[C") (.int 0)) (.int (112))) (by decide +kernel))
    | 1, _ => exact va_eqt (hs (.eq (.elem (.static "DecoderForge" "KIND_SIGNS" "[C") (.int 1)) (.int (106))) (by decide +kernel))
    | 2, _ => exact va_eqt (hs (.eq (.elem (.static "DecoderForge" "KIND_SIGNS" "[C") (.int 2)) (.int (108))) (by decide +kernel))
    | 3, _ => exact va_eqt (hs (.eq (.elem (.static "DecoderForge" "KIND_SIGNS" "[C") (.int 3)) (.int (99))) (by decide +kernel))
    | 4, _ => exact va_eqt (hs (.eq (.elem (.static "DecoderForge" "KIND_SIGNS" "[C") (.int 4)) (.int (115))) (by decide +kernel))
    | 5, _ => exact va_eqt (hs (.eq (.elem (.static "DecoderForge" "KIND_SIGNS" "[C") (.int 5)) (.int (116))) (by decide +kernel))
    | 6, _ => exact va_eqt (hs (.eq (.elem (.static "DecoderForge" "KIND_SIGNS" "[C") (.int 6)) (.int (103))) (by decide +kernel))) (fun a h => Nat.not_le.mpr h)
  exact ⟨t, va_Zof (hts (.laysStatic "DecoderForge" "KIND_SIGNS" "[C") (by decide +kernel)) (hts (.initialized "DecoderForge") (by decide +kernel)) h1 (fun a h => Nat.not_le.mpr h), h2⟩
theorem sta_2 {args : Array Value} {s : State} (hs : ∀ c ∈ flatC (Jvm.Cond.and given_1 narrow_1), c.before args s = true) (hts : ∀ w ∈ lw_tbl, w.before args s = true) : ∃ t : Nat, va_Z (sC 2) (sN 2) (sD 2) (.ref t) (fun q => s.heap.size ≤ q) s s.heap ∧ va_T (sT 2) t (sL 2) (fun i => .int (sV 2 i)) (fun q => s.heap.size ≤ q) s s.heap := by
  obtain ⟨t, h1, h2⟩ := va_Tof (tm := (.static "DecoderForge" "POWERS_OF_3" "[I")) (ty := .int) (N := 7) (f := fun i => .int (sV 2 i)) (A := fun q => s.heap.size ≤ q) (by decide) (hs (.arrayOf (.static "DecoderForge" "POWERS_OF_3" "[I") .int) (by decide +kernel)) (va_eqt (hs (.eq (.length (.static "DecoderForge" "POWERS_OF_3" "[I")) (.int 7)) (by decide +kernel))) (fun i hi => by
    match i, hi with
    | 0, _ => exact va_eqt (hs (.eq (.elem (.static "DecoderForge" "POWERS_OF_3" "[I") (.int 0)) (.int (1))) (by decide +kernel))
    | 1, _ => exact va_eqt (hs (.eq (.elem (.static "DecoderForge" "POWERS_OF_3" "[I") (.int 1)) (.int (3))) (by decide +kernel))
    | 2, _ => exact va_eqt (hs (.eq (.elem (.static "DecoderForge" "POWERS_OF_3" "[I") (.int 2)) (.int (9))) (by decide +kernel))
    | 3, _ => exact va_eqt (hs (.eq (.elem (.static "DecoderForge" "POWERS_OF_3" "[I") (.int 3)) (.int (27))) (by decide +kernel))
    | 4, _ => exact va_eqt (hs (.eq (.elem (.static "DecoderForge" "POWERS_OF_3" "[I") (.int 4)) (.int (81))) (by decide +kernel))
    | 5, _ => exact va_eqt (hs (.eq (.elem (.static "DecoderForge" "POWERS_OF_3" "[I") (.int 5)) (.int (243))) (by decide +kernel))
    | 6, _ => exact va_eqt (hs (.eq (.elem (.static "DecoderForge" "POWERS_OF_3" "[I") (.int 6)) (.int (729))) (by decide +kernel))) (fun a h => Nat.not_le.mpr h)
  exact ⟨t, va_Zof (hts (.laysStatic "DecoderForge" "POWERS_OF_3" "[I") (by decide +kernel)) (hts (.initialized "DecoderForge") (by decide +kernel)) h1 (fun a h => Nat.not_le.mpr h), h2⟩
theorem sta_3 {args : Array Value} {s : State} (hs : ∀ c ∈ flatC (Jvm.Cond.and given_1 narrow_1), c.before args s = true) (hts : ∀ w ∈ lw_tbl, w.before args s = true) : ∃ t : Nat, va_Z (sC 3) (sN 3) (sD 3) (.ref t) (fun q => s.heap.size ≤ q) s s.heap ∧ va_T (sT 3) t (sL 3) (fun i => .int (sV 3 i)) (fun q => s.heap.size ≤ q) s s.heap := by
  obtain ⟨t, h1, h2⟩ := va_Tof (tm := (.static "DecoderForgeModel" "SIGNS" "[I")) (ty := .int) (N := 8) (f := fun i => .int (sV 3 i)) (A := fun q => s.heap.size ≤ q) (by decide) (hs (.arrayOf (.static "DecoderForgeModel" "SIGNS" "[I") .int) (by decide +kernel)) (va_eqt (hs (.eq (.length (.static "DecoderForgeModel" "SIGNS" "[I")) (.int 8)) (by decide +kernel))) (fun i hi => by
    match i, hi with
    | 0, _ => exact va_eqt (hs (.eq (.elem (.static "DecoderForgeModel" "SIGNS" "[I") (.int 0)) (.int (119))) (by decide +kernel))
    | 1, _ => exact va_eqt (hs (.eq (.elem (.static "DecoderForgeModel" "SIGNS" "[I") (.int 1)) (.int (120))) (by decide +kernel))
    | 2, _ => exact va_eqt (hs (.eq (.elem (.static "DecoderForgeModel" "SIGNS" "[I") (.int 2)) (.int (121))) (by decide +kernel))
    | 3, _ => exact va_eqt (hs (.eq (.elem (.static "DecoderForgeModel" "SIGNS" "[I") (.int 3)) (.int (122))) (by decide +kernel))
    | 4, _ => exact va_eqt (hs (.eq (.elem (.static "DecoderForgeModel" "SIGNS" "[I") (.int 4)) (.int (87))) (by decide +kernel))
    | 5, _ => exact va_eqt (hs (.eq (.elem (.static "DecoderForgeModel" "SIGNS" "[I") (.int 5)) (.int (88))) (by decide +kernel))
    | 6, _ => exact va_eqt (hs (.eq (.elem (.static "DecoderForgeModel" "SIGNS" "[I") (.int 6)) (.int (89))) (by decide +kernel))
    | 7, _ => exact va_eqt (hs (.eq (.elem (.static "DecoderForgeModel" "SIGNS" "[I") (.int 7)) (.int (90))) (by decide +kernel))) (fun a h => Nat.not_le.mpr h)
  exact ⟨t, va_Zof (hts (.laysStatic "DecoderForgeModel" "SIGNS" "[I") (by decide +kernel)) (hts (.initialized "DecoderForgeModel") (by decide +kernel)) h1 (fun a h => Nat.not_le.mpr h), h2⟩
theorem sta_4 {args : Array Value} {s : State} (hs : ∀ c ∈ flatC (Jvm.Cond.and given_1 narrow_1), c.before args s = true) (hts : ∀ w ∈ lw_tbl, w.before args s = true) : ∃ t : Nat, va_Z (sC 4) (sN 4) (sD 4) (.ref t) (fun q => s.heap.size ≤ q) s s.heap ∧ va_T (sT 4) t (sL 4) (fun i => .int (sV 4 i)) (fun q => s.heap.size ≤ q) s s.heap := by
  obtain ⟨t, h1, h2⟩ := va_Tof (tm := (.static "DecoderForgeModel" "KINDS" "[I")) (ty := .int) (N := 7) (f := fun i => .int (sV 4 i)) (A := fun q => s.heap.size ≤ q) (by decide) (hs (.arrayOf (.static "DecoderForgeModel" "KINDS" "[I") .int) (by decide +kernel)) (va_eqt (hs (.eq (.length (.static "DecoderForgeModel" "KINDS" "[I")) (.int 7)) (by decide +kernel))) (fun i hi => by
    match i, hi with
    | 0, _ => exact va_eqt (hs (.eq (.elem (.static "DecoderForgeModel" "KINDS" "[I") (.int 0)) (.int (112))) (by decide +kernel))
    | 1, _ => exact va_eqt (hs (.eq (.elem (.static "DecoderForgeModel" "KINDS" "[I") (.int 1)) (.int (106))) (by decide +kernel))
    | 2, _ => exact va_eqt (hs (.eq (.elem (.static "DecoderForgeModel" "KINDS" "[I") (.int 2)) (.int (108))) (by decide +kernel))
    | 3, _ => exact va_eqt (hs (.eq (.elem (.static "DecoderForgeModel" "KINDS" "[I") (.int 3)) (.int (99))) (by decide +kernel))
    | 4, _ => exact va_eqt (hs (.eq (.elem (.static "DecoderForgeModel" "KINDS" "[I") (.int 4)) (.int (115))) (by decide +kernel))
    | 5, _ => exact va_eqt (hs (.eq (.elem (.static "DecoderForgeModel" "KINDS" "[I") (.int 5)) (.int (116))) (by decide +kernel))
    | 6, _ => exact va_eqt (hs (.eq (.elem (.static "DecoderForgeModel" "KINDS" "[I") (.int 6)) (.int (103))) (by decide +kernel))) (fun a h => Nat.not_le.mpr h)
  exact ⟨t, va_Zof (hts (.laysStatic "DecoderForgeModel" "KINDS" "[I") (by decide +kernel)) (hts (.initialized "DecoderForgeModel") (by decide +kernel)) h1 (fun a h => Nat.not_le.mpr h), h2⟩
theorem sta_5 {args : Array Value} {s : State} (hs : ∀ c ∈ flatC (Jvm.Cond.and given_1 narrow_1), c.before args s = true) (hts : ∀ w ∈ lw_tbl, w.before args s = true) : ∃ t : Nat, va_Z (sC 5) (sN 5) (sD 5) (.ref t) (fun q => s.heap.size ≤ q) s s.heap ∧ va_T (sT 5) t (sL 5) (fun i => .int (sV 5 i)) (fun q => s.heap.size ≤ q) s s.heap := by
  obtain ⟨t, h1, h2⟩ := va_Tof (tm := (.static "DecoderForgeModel" "UNDER" "[I")) (ty := .int) (N := 7) (f := fun i => .int (sV 5 i)) (A := fun q => s.heap.size ≤ q) (by decide) (hs (.arrayOf (.static "DecoderForgeModel" "UNDER" "[I") .int) (by decide +kernel)) (va_eqt (hs (.eq (.length (.static "DecoderForgeModel" "UNDER" "[I")) (.int 7)) (by decide +kernel))) (fun i hi => by
    match i, hi with
    | 0, _ => exact va_eqt (hs (.eq (.elem (.static "DecoderForgeModel" "UNDER" "[I") (.int 0)) (.int (-1))) (by decide +kernel))
    | 1, _ => exact va_eqt (hs (.eq (.elem (.static "DecoderForgeModel" "UNDER" "[I") (.int 1)) (.int (0))) (by decide +kernel))
    | 2, _ => exact va_eqt (hs (.eq (.elem (.static "DecoderForgeModel" "UNDER" "[I") (.int 2)) (.int (0))) (by decide +kernel))
    | 3, _ => exact va_eqt (hs (.eq (.elem (.static "DecoderForgeModel" "UNDER" "[I") (.int 3)) (.int (1))) (by decide +kernel))
    | 4, _ => exact va_eqt (hs (.eq (.elem (.static "DecoderForgeModel" "UNDER" "[I") (.int 4)) (.int (2))) (by decide +kernel))
    | 5, _ => exact va_eqt (hs (.eq (.elem (.static "DecoderForgeModel" "UNDER" "[I") (.int 5)) (.int (0))) (by decide +kernel))
    | 6, _ => exact va_eqt (hs (.eq (.elem (.static "DecoderForgeModel" "UNDER" "[I") (.int 6)) (.int (3))) (by decide +kernel))) (fun a h => Nat.not_le.mpr h)
  exact ⟨t, va_Zof (hts (.laysStatic "DecoderForgeModel" "UNDER" "[I") (by decide +kernel)) (hts (.initialized "DecoderForgeModel") (by decide +kernel)) h1 (fun a h => Nat.not_le.mpr h), h2⟩
theorem sta_all {args : Array Value} {s : State} (hs : ∀ c ∈ flatC (Jvm.Cond.and given_1 narrow_1), c.before args s = true) (hts : ∀ w ∈ lw_tbl, w.before args s = true) : ∃ sa : Nat → Nat, ∀ j, j < 6 → va_Z (sC j) (sN j) (sD j) (.ref (sa j)) (fun q => s.heap.size ≤ q) s s.heap ∧ va_T (sT j) (sa j) (sL j) (fun i => .int (sV j i)) (fun q => s.heap.size ≤ q) s s.heap := by
  obtain ⟨t0, h0⟩ := sta_0 hs hts
  obtain ⟨t1, h1⟩ := sta_1 hs hts
  obtain ⟨t2, h2⟩ := sta_2 hs hts
  obtain ⟨t3, h3⟩ := sta_3 hs hts
  obtain ⟨t4, h4⟩ := sta_4 hs hts
  obtain ⟨t5, h5⟩ := sta_5 hs hts
  refine ⟨fun j => match j with | 0 => t0 | 1 => t1 | 2 => t2 | 3 => t3 | 4 => t4 | _ => t5, fun j hj => ?_⟩
  match j, hj with
  | 0, _ => exact h0
  | 1, _ => exact h1
  | 2, _ => exact h2
  | 3, _ => exact h3
  | 4, _ => exact h4
  | 5, _ => exact h5
theorem cls_all {args : Array Value} {s : State} (hts : ∀ w ∈ TB, w.before args s = true) : ∃ (dC : Nat → ClassId) (dI : Nat → Nat → Nat), ∀ (k : Nat) (q : vw_C), vwCl[k]? = some q → u_Kn s q.1 q.2.1 q.2.2 (dC k) (dI k) := by
  have h : ∀ k : Nat, ∃ (c : ClassId) (iS : Nat → Nat), ∀ q : vw_C, vwCl[k]? = some q → u_Kn s q.1 q.2.1 q.2.2 c iS := by
    intro k
    match k with
    | 0 => obtain ⟨c, iS, h⟩ := u_known (C := RX0) (T := TX0) (N := 2) (n := 2) hts inT0 (hts (.instantiable RX0 2) (mI 145 (by decide +kernel) rfl)); exact ⟨c, iS, fun q hq => by cases hq; exact h⟩
    | 1 => obtain ⟨c, iS, h⟩ := u_known (C := RX1) (T := TX1) (N := 4) (n := 4) hts inT1 (hts (.instantiable RX1 4) (mI 162 (by decide +kernel) rfl)); exact ⟨c, iS, fun q hq => by cases hq; exact h⟩
    | 2 => obtain ⟨c, iS, h⟩ := u_known (C := RX2) (T := TX2) (N := 4) (n := 4) hts inT2 (hts (.instantiable RX2 4) (mI 201 (by decide +kernel) rfl)); exact ⟨c, iS, fun q hq => by cases hq; exact h⟩
    | 3 => obtain ⟨c, iS, h⟩ := u_known (C := RX3) (T := TX3) (N := 11) (n := 11) hts inT3 (hts (.instantiable RX3 11) (mI 194 (by decide +kernel) rfl)); exact ⟨c, iS, fun q hq => by cases hq; exact h⟩
    | 4 => obtain ⟨c, iS, h⟩ := u_known (C := RX4) (T := TX4) (N := 2) (n := 2) hts inT4 (hts (.instantiable RX4 2) (mI 187 (by decide +kernel) rfl)); exact ⟨c, iS, fun q hq => by cases hq; exact h⟩
    | 5 => obtain ⟨c, iS, h⟩ := u_known (C := RX5) (T := TX5) (N := 5) (n := 5) hts inT5 (hts (.instantiable RX5 5) (mI 389 (by decide +kernel) rfl)); exact ⟨c, iS, fun q hq => by cases hq; exact h⟩
    | 6 => obtain ⟨c, iS, h⟩ := u_known (C := RX6) (T := TX6) (N := 8) (n := 8) hts inT6 (hts (.instantiable RX6 8) (mI 292 (by decide +kernel) rfl)); exact ⟨c, iS, fun q hq => by cases hq; exact h⟩
    | 7 => obtain ⟨c, iS, h⟩ := u_known (C := RX7) (T := TX7) (N := 4) (n := 4) hts inT7 (hts (.instantiable RX7 4) (mI 370 (by decide +kernel) rfl)); exact ⟨c, iS, fun q hq => by cases hq; exact h⟩
    | 8 => obtain ⟨c, iS, h⟩ := u_known (C := RX8) (T := TX8) (N := 11) (n := 11) hts inT8 (hts (.instantiable RX8 11) (mI 326 (by decide +kernel) rfl)); exact ⟨c, iS, fun q hq => by cases hq; exact h⟩
    | 9 => obtain ⟨c, iS, h⟩ := u_known (C := RX9) (T := TX9) (N := 9) (n := 9) hts inT9 (hts (.instantiable RX9 9) (mI 411 (by decide +kernel) rfl)); exact ⟨c, iS, fun q hq => by cases hq; exact h⟩
    | 10 => obtain ⟨c, iS, h⟩ := u_known (C := RX10) (T := TX10) (N := 15) (n := 15) hts inT10 (hts (.instantiable RX10 15) (mI 137 (by decide +kernel) rfl)); exact ⟨c, iS, fun q hq => by cases hq; exact h⟩
    | 11 => obtain ⟨c, iS, h⟩ := u_known (C := RX11) (T := TX11) (N := 38) (n := 38) hts inT11 (hts (.instantiable RX11 38) (mI 1028 (by decide +kernel) rfl)); exact ⟨c, iS, fun q hq => by cases hq; exact h⟩
    | k + 12 => exact ⟨0, fun _ => 0, fun q hq => by simp [vwCl] at hq⟩
  exact ⟨fun k => Classical.choose (h k), fun k => Classical.choose (Classical.choose_spec (h k)), fun k q hq => Classical.choose_spec (Classical.choose_spec (h k)) q hq⟩
theorem arr_obj {s : State} {C : String} (h : va_AO C s) : ∃ cA : ClassId, ArrOfT s cA (.object C) ∧ va_RA s cA (.object C) := by
  obtain ⟨comp, c, k, h1, h2, h3, h4, h5⟩ := Cond.arrayOver_spec h
  exact ⟨c, fun N z => ⟨(fun k h => by cases h), k, h3, comp, h4⟩, k, comp, h3, h4, h1, h5⟩
theorem arr_all {args : Array Value} {s : State} (hts : ∀ w ∈ lw_tbl, w.before args s = true) : AOs s ∧ ∃ ac : Nat → ClassId, ∀ (k : Nat) (q : ClassId × FieldType), ([(ac 0, .int), (ac 1, .object RX3), (ac 2, .object RX2), (ac 3, .object RX1)] : List (ClassId × FieldType))[k]? = some q → ArrOfT s q.1 q.2 ∧ va_RA s q.1 q.2 := by
  have a1 : va_AO RX1 s := va_AO.of (hts (.arrayOver (.object RX1)) (by decide +kernel))
  have a2 : va_AO RX2 s := va_AO.of (hts (.arrayOver (.object RX2)) (by decide +kernel))
  have a3 : va_AO RX3 s := va_AO.of (hts (.arrayOver (.object RX3)) (by decide +kernel))
  obtain ⟨cA, kA, comp, f1, f2, f3⟩ := Cond.arrayClass_spec (hts (.arrayClass .int) (by decide +kernel))
  obtain ⟨c1, g1⟩ := arr_obj a1
  obtain ⟨c2, g2⟩ := arr_obj a2
  obtain ⟨c3, g3⟩ := arr_obj a3
  refine ⟨⟨a1, a2, a3⟩, fun k => match k with | 0 => cA | 1 => c3 | 2 => c2 | _ => c1, fun k q hq => ?_⟩
  match k, hq with
  | 0, hq => cases hq; exact ⟨fun n z => ⟨fun k h => (by cases h), kA, f2, comp, f3⟩, f1⟩
  | 1, hq => cases hq; exact g3
  | 2, hq => cases hq; exact g2
  | 3, hq => cases hq; exact g1
  | k + 4, hq => simp at hq
theorem nw_L_7 {X : Xt} : NW (X := X) RL 7 10 := ⟨RX10, TX10, 15, tyX10, rfl, rfl, inT10, tyX10_ok, (mI 136 (by decide +kernel) rfl), (mI 137 (by decide +kernel) rfl), (mI 120 (by decide +kernel) rfl), fun k j hk hj => by unfold fvs0 rs; rw [hk]; rcases (show j = 0 ∨ j = 1 ∨ j = 2 ∨ j = 3 ∨ j = 4 ∨ j = 5 ∨ j = 6 ∨ j = 7 ∨ j = 8 ∨ j = 9 ∨ j = 10 ∨ j = 11 ∨ j = 12 ∨ j = 13 ∨ j = 14 by omega) with rfl | rfl | rfl | rfl | rfl | rfl | rfl | rfl | rfl | rfl | rfl | rfl | rfl | rfl | rfl <;> rfl⟩
theorem nw_L_10 {X : Xt} : NW (X := X) RL 10 11 := ⟨RX11, TX11, 38, tyX11, rfl, rfl, inT11, tyX11_ok, (mI 1027 (by decide +kernel) rfl), (mI 1028 (by decide +kernel) rfl), (mI 131 (by decide +kernel) rfl), fun k j hk hj => by unfold fvs0 rs; rw [hk]; rcases (show j = 0 ∨ j = 1 ∨ j = 2 ∨ j = 3 ∨ j = 4 ∨ j = 5 ∨ j = 6 ∨ j = 7 ∨ j = 8 ∨ j = 9 ∨ j = 10 ∨ j = 11 ∨ j = 12 ∨ j = 13 ∨ j = 14 ∨ j = 15 ∨ j = 16 ∨ j = 17 ∨ j = 18 ∨ j = 19 ∨ j = 20 ∨ j = 21 ∨ j = 22 ∨ j = 23 ∨ j = 24 ∨ j = 25 ∨ j = 26 ∨ j = 27 ∨ j = 28 ∨ j = 29 ∨ j = 30 ∨ j = 31 ∨ j = 32 ∨ j = 33 ∨ j = 34 ∨ j = 35 ∨ j = 36 ∨ j = 37 by omega) with rfl | rfl | rfl | rfl | rfl | rfl | rfl | rfl | rfl | rfl | rfl | rfl | rfl | rfl | rfl | rfl | rfl | rfl | rfl | rfl | rfl | rfl | rfl | rfl | rfl | rfl | rfl | rfl | rfl | rfl | rfl | rfl | rfl | rfl | rfl | rfl | rfl | rfl <;> rfl⟩
theorem cmi_L_9 : CM RL 9 yX10_init cX10_init 6 none 0 ∧ Cond.instanceMethod yX10_init ∈ TB := ⟨⟨Or.inl (mI 138 (by decide +kernel) rfl), (mI 120 (by decide +kernel) rfl), (mI 140 (by decide +kernel) rfl), by decide, by decide, by decide +kernel⟩, (mI 139 (by decide +kernel) rfl)⟩
theorem cmi_L_12 : CM RL 12 yX11_init cX11_init 1 none 0 ∧ Cond.instanceMethod yX11_init ∈ TB := ⟨⟨Or.inl (mI 1029 (by decide +kernel) rfl), (mI 131 (by decide +kernel) rfl), (mI 1031 (by decide +kernel) rfl), by decide, by decide, by decide +kernel⟩, (mI 1030 (by decide +kernel) rfl)⟩
def finP (K : Kt) (L : Nat) (xs : Nat → Int32) : Unit → St → State → Prop := fun _ t st => GoodL L xs t → lw_Z (kb K) (ka K) (ks K) st
theorem cel_full {X : Xt} {σ : Mem} (hF : Full σ) {k : Nat} (hk : k < 385) : cel0 X k (σ k) = cel X k (σ k) := by
  have h1 : ∀ j, fvs0 X k (σ k) j = fvs X k (σ k) j := by
    intro j
    unfold fvs0 fvs
    cases h : rs k j with
    | none => rfl
    | some i => simp [hF k j i hk h]
  have h2 : ∀ j, (if σ k j = 1 then (rs k j).map (xad X) else none) = (rs k j).map (xad X) := by
    intro j
    cases h : rs k j with
    | none => simp
    | some i => simp [hF k j i hk h]
  unfold cel0 cel
  simp only [h2]
  rw [show fvs0 X k (σ k) = fvs X k (σ k) from funext h1]
set_option maxHeartbeats 4000000 in
set_option maxRecDepth 100000 in
theorem law_head (K : Kt) (X : Xt) (hX : xn X = 385) (b L : Nat) (xs : Nat → Int32) (hsc : Scr K X b L xs) (hka : ka K = #[Value.ref b]) (hxb : xB X = (ks K).heap.size) (t : St) : GI K room_1 X cL_law 4 RL ret (finP K L xs) 437 20847 18 [(0, .ref b), (1, .ref (xad X 0)), (2, .ref (xad X 362)), (3, .int (0 : Int32))] [] t (some ((), t)) := by
  intro C r σ' hex H locs lsA hw hS hl
  cases hex
  by_cases hG : GoodL L xs t
  · obtain ⟨h1, hF, m2, h2⟩ := id hG
    have hXq := C.2.2.2.2.2.2.1
    have hXo : Xok X := ⟨by omega, fun k _ => by rw [hXq]; omega, fun i j _ _ e => by rw [hXq, hXq] at e; omega⟩
    have hW : World X t.2 H := by
      intro k hk
      have h := hw.2 k (by omega)
      rw [cel_full hF (by omega)] at h
      exact h
    have C' : Cx K X cL_law 4 RL ret := ⟨C.1, C.2.1, C.2.2.1, C.2.2.2.1, C.2.2.2.2.1, C.2.2.2.2.2.1, hXo, C.2.2.2.2.2.2.2.1.1, C.2.2.2.2.2.2.2.2⟩
    have hg := lL_law_L18 K X hX b L xs hsc hka hxb (437 + 513 * 804) (20847 + 513 * 9648) (by omega) (by omega) 513 437 20847 (by omega) (by omega) t.2 (0 : Int32)
    intro T hT X0
    obtain ⟨st, a1, b1⟩ := hg C' 1 m2 h2 H locs lsA hW hS hl T hT X0
    exact ⟨st, a1, fun _ => b1 rfl⟩
  · intro T hT X0
    exact ⟨_, Steps.refl _, fun h => absurd h hG⟩
set_option maxHeartbeats 4000000 in
set_option maxRecDepth 100000 in
theorem law_pre (K : Kt) (X : Xt) (hX : xn X = 385) (b L : Nat) (xs : Nat → Int32) (hsc : Scr K X b L xs) (hka : ka K = #[Value.ref b]) (hxb : xB X = (ks K).heap.size) (t0 : St) : GI K room_1 X cL_law 4 RL ret (finP K L xs) 0 0 0 [(0, .ref b)] [] t0 (fL_pre t0) := by
  unfold fL_pre
  refine gi_newN (N := 15) rfl DL_law_0 nw_L_7 (by decide) (by decide) (fun t1 => ?_)
  refine gi_dup DL_law_3 rfl ?_
  refine gi_call (st := [.ref (xad X t0.1)]) cmi_L_9.1 cmi_L_9.2 rfl DL_law_4 (okX10_init (kl K) X t0.1 t1) rfl rfl (Nat.le_of_ble_eq_true rfl) (by decide) (dc := 413) (ds := 10337) ⟨rfl, rfl⟩ ⟨by decide, by decide⟩ (fun t2 => ?_)
  refine gi_astore_n (ls' := [(1, .ref (xad X t0.1)), (0, .ref b)]) DL_law_7 (by decide) rfl ?_
  refine gi_newN (N := 38) rfl DL_law_8 nw_L_10 (by decide) (by decide) (fun t3 => ?_)
  refine gi_dup DL_law_11 rfl ?_
  refine gi_call (st := [.ref (xad X t2.1)]) cmi_L_12.1 cmi_L_12.2 rfl DL_law_12 (okX11_init (kl K) X t2.1 t3) rfl rfl (Nat.le_of_ble_eq_true rfl) (by decide) (dc := 22) (ds := 10457) ⟨rfl, rfl⟩ ⟨by decide, by decide⟩ (fun t4 => ?_)
  refine gi_astore_n (ls' := [(2, .ref (xad X t2.1)), (1, .ref (xad X t0.1)), (0, .ref b)]) DL_law_15 (by decide) rfl ?_
  refine gi_ck (fun hb => ?_)
  simp only [Bool.and_eq_true, beq_iff_eq] at hb
  rw [hb.1, hb.2]
  refine gi_iconst (v := (0 : Int32)) DL_law_16 rfl ?_
  refine gi_istore_n (ls' := [(3, .int (0 : Int32)), (2, .ref (xad X 362)), (1, .ref (xad X 0)), (0, .ref b)]) DL_law_17 (by decide) rfl ?_
  refine gi_sub [3, 2, 1, 0] rfl ?_
  exact law_head K X hX b L xs hsc hka hxb t4
set_option maxHeartbeats 4000000 in
set_option maxRecDepth 100000 in
theorem whole_of (hpure : PureOk) {p : Program} {e : Env} {s : State} {m : MethodId} {below : List Frame} {meth : Method} {c : Code} (l : Launch) {b L : Nat} {xs : Nat → Int32} (hL : L ≤ 2560) (C0 : lw_At p s m meth c b L xs) : W p l e room_1 s m #[Value.ref b] below meth c s.heap [] 0 0 (lw_Z below #[Value.ref b] s) (entryFrame m ([Value.ref b] : List Value).toArray 4) := by
  obtain ⟨hx, hb, hr, hml, hown, hts, hX, hbl, hlocks, hgv⟩ := C0
  have hTB : ∀ w ∈ TB, w.before #[Value.ref b] s = true := fun w h => hts w (List.mem_filter.mp h).1
  obtain ⟨sa, hsa⟩ := sta_all (flat_of_before _ hgv) hts
  obtain ⟨dC, dI, hcl⟩ := cls_all hTB
  obtain ⟨hAO, ac, hac⟩ := arr_all hts
  obtain ⟨t, ht, hG⟩ := hpure L xs hL
  let X : Xt := (fun k => s.heap.size + k, (dC, dI), ac, sa, 385, s.heap.size)
  let K : Kt := (p, l, e, s, m, #[Value.ref b], below, meth, c)
  have hl := lv_entry ([.ref b]) (n := 4) (Nat.le_of_ble_eq_true rfl)
  rw [lg_entry_eq]
  have hK : va_K (xD X) vwCl (tyX X) (ks K) := ⟨hcl, hac⟩
  have hC : CxI K X cL_law 4 RL ret := ⟨hx, hb, hml, hown, hTB, hK, fun k => rfl, ⟨hsa, hAO, Nat.le_refl _⟩, hr, hlocks⟩
  have h := law_pre K X rfl b L xs ⟨hX, hbl, Nat.not_le.mpr hbl⟩ rfl rfl (0, fun _ _ => 0)
  have hw : World0 X (0, fun _ _ => 0) s.heap := ⟨rfl, fun k hk => absurd hk (Nat.not_lt_zero k)⟩
  have hW := h hC () t ht s.heap [] _ hw va_S.rf hl
  intro T hT X0
  obtain ⟨st, a1, b1⟩ := hW T hT X0
  exact ⟨st, a1, b1 hG⟩
