theorem ac_int : Cond.arrayClass .int ∈ TB := (mI 160 (by decide +kernel) rfl)
section NEWAS
variable {R : Type} {K : Kt} {Rm : Room} {X : Xt} {cc : ByteArray} {nL : Nat} {own : String} {ret : Option FieldType} {fin : R → St → State → Prop} {cells slots pc nx : Nat} {ls : List (Nat × Value)} {st : List Value} {σ : St} {ex : Option (R × St)}
theorem gi_newas {n : Int32} {f : St → Option (R × St)} (hd : Dc cc pc (.newarray .int) 2 nx) (hwd : Cond.arrayClass .int ∈ TB) (hc : cells + 1 ≤ Rm.cells) (hs : slots + 200 ≤ Rm.slots)
    (kk : ∀ t1, GI K Rm X cc nL own ret fin (cells + 1) (slots + 200) nx ls (.ref (xad X σ.1) :: st) t1 (f t1)) : GI K Rm X cc nL own ret fin cells slots pc ls (.int n :: st) σ (ck (decide (0 ≤ n) && (decide (ix n ≤ 200) && (kd σ.1 == 12 && al σ.1 == ix n))) (lt (nw σ) f)) := by
  refine gi_ck (fun hb => ?_)
  simp only [Bool.and_eq_true, decide_eq_true_eq, beq_iff_eq] at hb
  have h := gi_newa (K := K) (Rm := Rm) (X := X) (nL := nL) (own := own) (ret := ret) (fin := fin) (cells := cells) (slots := slots) (ls := ls) (st := st) (σ := σ) (n := n) (N := ix n) (f := f) hd hwd (Int32.not_lt.mpr hb.1) rfl (by omega) hc (by omega) (fun t1 => gi_widen (Nat.le_refl _) (by omega) (kk t1))
  have e : (kd σ.1 == 12 && al σ.1 == ix n) = true := by simp only [Bool.and_eq_true, beq_iff_eq]; exact hb.2.2
  rw [e] at h
  exact h
theorem gi_newN {idx ci N : Nat} {f : St → Option (R × St)} (hN : nfo ci = N) (hd : Dc cc pc (.new idx) 3 nx) (hnw : NW (X := X) own idx ci) (hc : cells + 1 ≤ Rm.cells) (hs : slots + N ≤ Rm.slots)
    (kk : ∀ t1, GI K Rm X cc nL own ret fin (cells + 1) (slots + N) nx ls (.ref (xad X σ.1) :: st) t1 (f t1)) : GI K Rm X cc nL own ret fin cells slots pc ls st σ (ck (kd σ.1 == ci) (lt (nw σ) f)) := by
  subst hN
  exact gi_new hd hnw hc hs kk
end NEWAS
theorem nw_X10_7 {X : Xt} : NW (X := X) RX10 7 0 := ⟨RX0, TX0, 2, tyX0, rfl, rfl, inT0, tyX0_ok, (mI 144 (by decide +kernel) rfl), (mI 145 (by decide +kernel) rfl), (mI 121 (by decide +kernel) rfl), fun k j hk hj => by unfold fvs0 rs; rw [hk]; rcases (show j = 0 ∨ j = 1 by omega) with rfl | rfl <;> rfl⟩
theorem nw_X10_18 {X : Xt} : NW (X := X) RX10 18 1 := ⟨RX1, TX1, 4, tyX1, rfl, rfl, inT1, tyX1_ok, (mI 161 (by decide +kernel) rfl), (mI 162 (by decide +kernel) rfl), (mI 122 (by decide +kernel) rfl), fun k j hk hj => by unfold fvs0 rs; rw [hk]; rcases (show j = 0 ∨ j = 1 ∨ j = 2 ∨ j = 3 by omega) with rfl | rfl | rfl | rfl <;> rfl⟩
theorem nw_X10_43 {X : Xt} : NW (X := X) RX10 43 4 := ⟨RX4, TX4, 2, tyX4, rfl, rfl, inT4, tyX4_ok, (mI 186 (by decide +kernel) rfl), (mI 187 (by decide +kernel) rfl), (mI 123 (by decide +kernel) rfl), fun k j hk hj => by unfold fvs0 rs; rw [hk]; rcases (show j = 0 ∨ j = 1 by omega) with rfl | rfl <;> rfl⟩
theorem nw_X10_46 {X : Xt} : NW (X := X) RX10 46 6 := ⟨RX6, TX6, 8, tyX6, rfl, rfl, inT6, tyX6_ok, (mI 291 (by decide +kernel) rfl), (mI 292 (by decide +kernel) rfl), (mI 126 (by decide +kernel) rfl), fun k j hk hj => by unfold fvs0 rs; rw [hk]; rcases (show j = 0 ∨ j = 1 ∨ j = 2 ∨ j = 3 ∨ j = 4 ∨ j = 5 ∨ j = 6 ∨ j = 7 by omega) with rfl | rfl | rfl | rfl | rfl | rfl | rfl | rfl <;> rfl⟩
theorem nw_X10_65 {X : Xt} : NW (X := X) RX10 65 8 := ⟨RX8, TX8, 11, tyX8, rfl, rfl, inT8, tyX8_ok, (mI 325 (by decide +kernel) rfl), (mI 326 (by decide +kernel) rfl), (mI 127 (by decide +kernel) rfl), fun k j hk hj => by unfold fvs0 rs; rw [hk]; rcases (show j = 0 ∨ j = 1 ∨ j = 2 ∨ j = 3 ∨ j = 4 ∨ j = 5 ∨ j = 6 ∨ j = 7 ∨ j = 8 ∨ j = 9 ∨ j = 10 by omega) with rfl | rfl | rfl | rfl | rfl | rfl | rfl | rfl | rfl | rfl | rfl <;> rfl⟩
theorem nw_X10_72 {X : Xt} : NW (X := X) RX10 72 7 := ⟨RX7, TX7, 4, tyX7, rfl, rfl, inT7, tyX7_ok, (mI 369 (by decide +kernel) rfl), (mI 370 (by decide +kernel) rfl), (mI 128 (by decide +kernel) rfl), fun k j hk hj => by unfold fvs0 rs; rw [hk]; rcases (show j = 0 ∨ j = 1 ∨ j = 2 ∨ j = 3 by omega) with rfl | rfl | rfl | rfl <;> rfl⟩
theorem nw_X10_81 {X : Xt} : NW (X := X) RX10 81 5 := ⟨RX5, TX5, 5, tyX5, rfl, rfl, inT5, tyX5_ok, (mI 388 (by decide +kernel) rfl), (mI 389 (by decide +kernel) rfl), (mI 129 (by decide +kernel) rfl), fun k j hk hj => by unfold fvs0 rs; rw [hk]; rcases (show j = 0 ∨ j = 1 ∨ j = 2 ∨ j = 3 ∨ j = 4 by omega) with rfl | rfl | rfl | rfl | rfl <;> rfl⟩
theorem nw_X10_90 {X : Xt} : NW (X := X) RX10 90 9 := ⟨RX9, TX9, 9, tyX9, rfl, rfl, inT9, tyX9_ok, (mI 410 (by decide +kernel) rfl), (mI 411 (by decide +kernel) rfl), (mI 130 (by decide +kernel) rfl), fun k j hk hj => by unfold fvs0 rs; rw [hk]; rcases (show j = 0 ∨ j = 1 ∨ j = 2 ∨ j = 3 ∨ j = 4 ∨ j = 5 ∨ j = 6 ∨ j = 7 ∨ j = 8 by omega) with rfl | rfl | rfl | rfl | rfl | rfl | rfl | rfl | rfl <;> rfl⟩
theorem nw_X3_24 {X : Xt} : NW (X := X) RX3 24 2 := ⟨RX2, TX2, 4, tyX2, rfl, rfl, inT2, tyX2_ok, (mI 199 (by decide +kernel) rfl), (mI 201 (by decide +kernel) rfl), (mI 125 (by decide +kernel) rfl), fun k j hk hj => by unfold fvs0 rs; rw [hk]; rcases (show j = 0 ∨ j = 1 ∨ j = 2 ∨ j = 3 by omega) with rfl | rfl | rfl | rfl <;> rfl⟩
theorem nw_X4_9 {X : Xt} : NW (X := X) RX4 9 3 := ⟨RX3, TX3, 11, tyX3, rfl, rfl, inT3, tyX3_ok, (mI 192 (by decide +kernel) rfl), (mI 194 (by decide +kernel) rfl), (mI 124 (by decide +kernel) rfl), fun k j hk hj => by unfold fvs0 rs; rw [hk]; rcases (show j = 0 ∨ j = 1 ∨ j = 2 ∨ j = 3 ∨ j = 4 ∨ j = 5 ∨ j = 6 ∨ j = 7 ∨ j = 8 ∨ j = 9 ∨ j = 10 by omega) with rfl | rfl | rfl | rfl | rfl | rfl | rfl | rfl | rfl | rfl | rfl <;> rfl⟩
theorem ck_X10_18 : Cond.classLink RX10 18 RX1 ∈ TB := (mI 161 (by decide +kernel) rfl)
theorem ck_X3_24 : Cond.classLink RX3 24 RX2 ∈ TB := (mI 199 (by decide +kernel) rfl)
theorem ck_X4_9 : Cond.classLink RX4 9 RX3 ∈ TB := (mI 192 (by decide +kernel) rfl)
theorem fpi_X0_9 : FPI RX0 9 0 1 .int := ⟨RX0, TX0, 2, tyX0, rfl, rfl, by decide, rfl, rfl, inT0, (mI 151 (by decide +kernel) rfl), tyX0_ok, nmX0, by decide +kernel⟩
theorem fpi_X0_15 : FPI RX0 15 0 0 (tyX0 0) := ⟨RX0, TX0, 2, tyX0, rfl, rfl, by decide, rfl, rfl, inT0, (mI 150 (by decide +kernel) rfl), tyX0_ok, nmX0, by decide +kernel⟩
theorem fpi_X1_9 : FPI RX1 9 1 0 (tyX1 0) := ⟨RX1, TX1, 4, tyX1, rfl, rfl, by decide, rfl, rfl, inT1, (mI 167 (by decide +kernel) rfl), tyX1_ok, nmX1, by decide +kernel⟩
theorem fpi_X1_15 : FPI RX1 15 1 1 (tyX1 1) := ⟨RX1, TX1, 4, tyX1, rfl, rfl, by decide, rfl, rfl, inT1, (mI 170 (by decide +kernel) rfl), tyX1_ok, nmX1, by decide +kernel⟩
theorem fpi_X1_18 : FPI RX1 18 1 2 (tyX1 2) := ⟨RX1, TX1, 4, tyX1, rfl, rfl, by decide, rfl, rfl, inT1, (mI 172 (by decide +kernel) rfl), tyX1_ok, nmX1, by decide +kernel⟩
theorem fpi_X1_21 : FPI RX1 21 1 3 .int := ⟨RX1, TX1, 4, tyX1, rfl, rfl, by decide, rfl, rfl, inT1, (mI 174 (by decide +kernel) rfl), tyX1_ok, nmX1, by decide +kernel⟩
theorem fpi_X10_14 : FPI RX10 14 10 4 (tyX10 4) := ⟨RX10, TX10, 15, tyX10, rfl, rfl, by decide, rfl, rfl, inT10, (mI 453 (by decide +kernel) rfl), tyX10_ok, nmX10, by decide +kernel⟩
theorem fpi_X10_21 : FPI RX10 21 10 9 (tyX10 9) := ⟨RX10, TX10, 15, tyX10, rfl, rfl, by decide, rfl, rfl, inT10, (mI 458 (by decide +kernel) rfl), tyX10_ok, nmX10, by decide +kernel⟩
theorem fpi_X10_25 : FPI RX10 25 10 10 .int := ⟨RX10, TX10, 15, tyX10, rfl, rfl, by decide, rfl, rfl, inT10, (mI 459 (by decide +kernel) rfl), tyX10_ok, nmX10, by decide +kernel⟩
theorem fpi_X10_29 : FPI RX10 29 10 11 (tyX10 11) := ⟨RX10, TX10, 15, tyX10, rfl, rfl, by decide, rfl, rfl, inT10, (mI 460 (by decide +kernel) rfl), tyX10_ok, nmX10, by decide +kernel⟩
theorem fpi_X10_33 : FPI RX10 33 10 12 .int := ⟨RX10, TX10, 15, tyX10, rfl, rfl, by decide, rfl, rfl, inT10, (mI 461 (by decide +kernel) rfl), tyX10_ok, nmX10, by decide +kernel⟩
theorem fpi_X10_36 : FPI RX10 36 10 13 .int := ⟨RX10, TX10, 15, tyX10, rfl, rfl, by decide, rfl, rfl, inT10, (mI 462 (by decide +kernel) rfl), tyX10_ok, nmX10, by decide +kernel⟩
theorem fpi_X10_39 : FPI RX10 39 10 14 (tyX10 14) := ⟨RX10, TX10, 15, tyX10, rfl, rfl, by decide, rfl, rfl, inT10, (mI 463 (by decide +kernel) rfl), tyX10_ok, nmX10, by decide +kernel⟩
theorem fpi_X10_51 : FPI RX10 51 10 0 (tyX10 0) := ⟨RX10, TX10, 15, tyX10, rfl, rfl, by decide, rfl, rfl, inT10, (mI 449 (by decide +kernel) rfl), tyX10_ok, nmX10, by decide +kernel⟩
theorem fpi_X10_55 : FPI RX10 55 10 1 (tyX10 1) := ⟨RX10, TX10, 15, tyX10, rfl, rfl, by decide, rfl, rfl, inT10, (mI 450 (by decide +kernel) rfl), tyX10_ok, nmX10, by decide +kernel⟩
theorem fpi_X10_59 : FPI RX10 59 10 3 (tyX10 3) := ⟨RX10, TX10, 15, tyX10, rfl, rfl, by decide, rfl, rfl, inT10, (mI 452 (by decide +kernel) rfl), tyX10_ok, nmX10, by decide +kernel⟩
theorem fpi_X10_62 : FPI RX10 62 10 7 (tyX10 7) := ⟨RX10, TX10, 15, tyX10, rfl, rfl, by decide, rfl, rfl, inT10, (mI 456 (by decide +kernel) rfl), tyX10_ok, nmX10, by decide +kernel⟩
theorem fpi_X10_68 : FPI RX10 68 10 2 (tyX10 2) := ⟨RX10, TX10, 15, tyX10, rfl, rfl, by decide, rfl, rfl, inT10, (mI 451 (by decide +kernel) rfl), tyX10_ok, nmX10, by decide +kernel⟩
theorem fpi_X10_77 : FPI RX10 77 10 5 (tyX10 5) := ⟨RX10, TX10, 15, tyX10, rfl, rfl, by decide, rfl, rfl, inT10, (mI 454 (by decide +kernel) rfl), tyX10_ok, nmX10, by decide +kernel⟩
theorem fpi_X10_86 : FPI RX10 86 10 6 (tyX10 6) := ⟨RX10, TX10, 15, tyX10, rfl, rfl, by decide, rfl, rfl, inT10, (mI 455 (by decide +kernel) rfl), tyX10_ok, nmX10, by decide +kernel⟩
theorem fpi_X10_95 : FPI RX10 95 10 8 (tyX10 8) := ⟨RX10, TX10, 15, tyX10, rfl, rfl, by decide, rfl, rfl, inT10, (mI 457 (by decide +kernel) rfl), tyX10_ok, nmX10, by decide +kernel⟩
theorem fpi_X11_7 : FPI RX11 7 11 0 (tyX11 0) := ⟨RX11, TX11, 38, tyX11, rfl, rfl, by decide, rfl, rfl, inT11, (mI 1033 (by decide +kernel) rfl), tyX11_ok, nmX11, by decide +kernel⟩
theorem fpi_X11_13 : FPI RX11 13 11 1 (tyX11 1) := ⟨RX11, TX11, 38, tyX11, rfl, rfl, by decide, rfl, rfl, inT11, (mI 1034 (by decide +kernel) rfl), tyX11_ok, nmX11, by decide +kernel⟩
theorem fpi_X11_16 : FPI RX11 16 11 2 (tyX11 2) := ⟨RX11, TX11, 38, tyX11, rfl, rfl, by decide, rfl, rfl, inT11, (mI 1035 (by decide +kernel) rfl), tyX11_ok, nmX11, by decide +kernel⟩
theorem fpi_X11_19 : FPI RX11 19 11 3 (tyX11 3) := ⟨RX11, TX11, 38, tyX11, rfl, rfl, by decide, rfl, rfl, inT11, (mI 1036 (by decide +kernel) rfl), tyX11_ok, nmX11, by decide +kernel⟩
theorem fpi_X11_22 : FPI RX11 22 11 4 (tyX11 4) := ⟨RX11, TX11, 38, tyX11, rfl, rfl, by decide, rfl, rfl, inT11, (mI 1037 (by decide +kernel) rfl), tyX11_ok, nmX11, by decide +kernel⟩
theorem fpi_X11_25 : FPI RX11 25 11 5 (tyX11 5) := ⟨RX11, TX11, 38, tyX11, rfl, rfl, by decide, rfl, rfl, inT11, (mI 1038 (by decide +kernel) rfl), tyX11_ok, nmX11, by decide +kernel⟩
theorem fpi_X11_28 : FPI RX11 28 11 6 (tyX11 6) := ⟨RX11, TX11, 38, tyX11, rfl, rfl, by decide, rfl, rfl, inT11, (mI 1039 (by decide +kernel) rfl), tyX11_ok, nmX11, by decide +kernel⟩
theorem fpi_X11_31 : FPI RX11 31 11 7 (tyX11 7) := ⟨RX11, TX11, 38, tyX11, rfl, rfl, by decide, rfl, rfl, inT11, (mI 1040 (by decide +kernel) rfl), tyX11_ok, nmX11, by decide +kernel⟩
theorem fpi_X11_34 : FPI RX11 34 11 9 (tyX11 9) := ⟨RX11, TX11, 38, tyX11, rfl, rfl, by decide, rfl, rfl, inT11, (mI 1042 (by decide +kernel) rfl), tyX11_ok, nmX11, by decide +kernel⟩
theorem fpi_X11_37 : FPI RX11 37 11 10 (tyX11 10) := ⟨RX11, TX11, 38, tyX11, rfl, rfl, by decide, rfl, rfl, inT11, (mI 1043 (by decide +kernel) rfl), tyX11_ok, nmX11, by decide +kernel⟩
theorem fpi_X11_40 : FPI RX11 40 11 12 (tyX11 12) := ⟨RX11, TX11, 38, tyX11, rfl, rfl, by decide, rfl, rfl, inT11, (mI 1045 (by decide +kernel) rfl), tyX11_ok, nmX11, by decide +kernel⟩
theorem fpi_X11_43 : FPI RX11 43 11 14 (tyX11 14) := ⟨RX11, TX11, 38, tyX11, rfl, rfl, by decide, rfl, rfl, inT11, (mI 1047 (by decide +kernel) rfl), tyX11_ok, nmX11, by decide +kernel⟩
theorem fpi_X11_46 : FPI RX11 46 11 16 (tyX11 16) := ⟨RX11, TX11, 38, tyX11, rfl, rfl, by decide, rfl, rfl, inT11, (mI 1049 (by decide +kernel) rfl), tyX11_ok, nmX11, by decide +kernel⟩
theorem fpi_X11_49 : FPI RX11 49 11 17 (tyX11 17) := ⟨RX11, TX11, 38, tyX11, rfl, rfl, by decide, rfl, rfl, inT11, (mI 1050 (by decide +kernel) rfl), tyX11_ok, nmX11, by decide +kernel⟩
theorem fpi_X11_52 : FPI RX11 52 11 19 (tyX11 19) := ⟨RX11, TX11, 38, tyX11, rfl, rfl, by decide, rfl, rfl, inT11, (mI 1052 (by decide +kernel) rfl), tyX11_ok, nmX11, by decide +kernel⟩
theorem fpi_X11_55 : FPI RX11 55 11 20 (tyX11 20) := ⟨RX11, TX11, 38, tyX11, rfl, rfl, by decide, rfl, rfl, inT11, (mI 1053 (by decide +kernel) rfl), tyX11_ok, nmX11, by decide +kernel⟩
theorem fpi_X11_58 : FPI RX11 58 11 21 (tyX11 21) := ⟨RX11, TX11, 38, tyX11, rfl, rfl, by decide, rfl, rfl, inT11, (mI 1054 (by decide +kernel) rfl), tyX11_ok, nmX11, by decide +kernel⟩
theorem fpi_X11_61 : FPI RX11 61 11 22 (tyX11 22) := ⟨RX11, TX11, 38, tyX11, rfl, rfl, by decide, rfl, rfl, inT11, (mI 1055 (by decide +kernel) rfl), tyX11_ok, nmX11, by decide +kernel⟩
theorem fpi_X11_64 : FPI RX11 64 11 23 (tyX11 23) := ⟨RX11, TX11, 38, tyX11, rfl, rfl, by decide, rfl, rfl, inT11, (mI 1056 (by decide +kernel) rfl), tyX11_ok, nmX11, by decide +kernel⟩
theorem fpi_X11_67 : FPI RX11 67 11 24 (tyX11 24) := ⟨RX11, TX11, 38, tyX11, rfl, rfl, by decide, rfl, rfl, inT11, (mI 1057 (by decide +kernel) rfl), tyX11_ok, nmX11, by decide +kernel⟩
theorem fpi_X11_70 : FPI RX11 70 11 34 (tyX11 34) := ⟨RX11, TX11, 38, tyX11, rfl, rfl, by decide, rfl, rfl, inT11, (mI 1067 (by decide +kernel) rfl), tyX11_ok, nmX11, by decide +kernel⟩
theorem fpi_X11_73 : FPI RX11 73 11 35 (tyX11 35) := ⟨RX11, TX11, 38, tyX11, rfl, rfl, by decide, rfl, rfl, inT11, (mI 1068 (by decide +kernel) rfl), tyX11_ok, nmX11, by decide +kernel⟩
theorem fpi_X11_76 : FPI RX11 76 11 8 .int := ⟨RX11, TX11, 38, tyX11, rfl, rfl, by decide, rfl, rfl, inT11, (mI 1041 (by decide +kernel) rfl), tyX11_ok, nmX11, by decide +kernel⟩
theorem fpi_X2_9 : FPI RX2 9 2 1 (tyX2 1) := ⟨RX2, TX2, 4, tyX2, rfl, rfl, by decide, rfl, rfl, inT2, (mI 207 (by decide +kernel) rfl), tyX2_ok, nmX2, by decide +kernel⟩
theorem fpi_X2_15 : FPI RX2 15 2 2 .int := ⟨RX2, TX2, 4, tyX2, rfl, rfl, by decide, rfl, rfl, inT2, (mI 208 (by decide +kernel) rfl), tyX2_ok, nmX2, by decide +kernel⟩
theorem fpi_X2_19 : FPI RX2 19 2 3 .int := ⟨RX2, TX2, 4, tyX2, rfl, rfl, by decide, rfl, rfl, inT2, (mI 212 (by decide +kernel) rfl), tyX2_ok, nmX2, by decide +kernel⟩
theorem fpi_X2_22 : FPI RX2 22 2 0 .boolean := ⟨RX2, TX2, 4, tyX2, rfl, rfl, by decide, rfl, rfl, inT2, (mI 206 (by decide +kernel) rfl), tyX2_ok, nmX2, by decide +kernel⟩
theorem fpi_X3_9 : FPI RX3 9 3 0 .int := ⟨RX3, TX3, 11, tyX3, rfl, rfl, by decide, rfl, rfl, inT3, (mI 223 (by decide +kernel) rfl), tyX3_ok, nmX3, by decide +kernel⟩
theorem fpi_X3_15 : FPI RX3 15 3 1 .int := ⟨RX3, TX3, 11, tyX3, rfl, rfl, by decide, rfl, rfl, inT3, (mI 227 (by decide +kernel) rfl), tyX3_ok, nmX3, by decide +kernel⟩
theorem fpi_X3_18 : FPI RX3 18 3 2 .int := ⟨RX3, TX3, 11, tyX3, rfl, rfl, by decide, rfl, rfl, inT3, (mI 231 (by decide +kernel) rfl), tyX3_ok, nmX3, by decide +kernel⟩
theorem fpi_X3_21 : FPI RX3 21 3 3 .int := ⟨RX3, TX3, 11, tyX3, rfl, rfl, by decide, rfl, rfl, inT3, (mI 234 (by decide +kernel) rfl), tyX3_ok, nmX3, by decide +kernel⟩
theorem fpi_X3_26 : FPI RX3 26 3 4 (tyX3 4) := ⟨RX3, TX3, 11, tyX3, rfl, rfl, by decide, rfl, rfl, inT3, (mI 238 (by decide +kernel) rfl), tyX3_ok, nmX3, by decide +kernel⟩
theorem fpi_X3_30 : FPI RX3 30 3 5 (tyX3 5) := ⟨RX3, TX3, 11, tyX3, rfl, rfl, by decide, rfl, rfl, inT3, (mI 241 (by decide +kernel) rfl), tyX3_ok, nmX3, by decide +kernel⟩
theorem fpi_X3_34 : FPI RX3 34 3 6 .int := ⟨RX3, TX3, 11, tyX3, rfl, rfl, by decide, rfl, rfl, inT3, (mI 242 (by decide +kernel) rfl), tyX3_ok, nmX3, by decide +kernel⟩
theorem fpi_X3_37 : FPI RX3 37 3 7 (tyX3 7) := ⟨RX3, TX3, 11, tyX3, rfl, rfl, by decide, rfl, rfl, inT3, (mI 245 (by decide +kernel) rfl), tyX3_ok, nmX3, by decide +kernel⟩
theorem fpi_X3_40 : FPI RX3 40 3 8 (tyX3 8) := ⟨RX3, TX3, 11, tyX3, rfl, rfl, by decide, rfl, rfl, inT3, (mI 246 (by decide +kernel) rfl), tyX3_ok, nmX3, by decide +kernel⟩
theorem fpi_X3_43 : FPI RX3 43 3 9 (tyX3 9) := ⟨RX3, TX3, 11, tyX3, rfl, rfl, by decide, rfl, rfl, inT3, (mI 247 (by decide +kernel) rfl), tyX3_ok, nmX3, by decide +kernel⟩
theorem fpi_X3_46 : FPI RX3 46 3 10 .int := ⟨RX3, TX3, 11, tyX3, rfl, rfl, by decide, rfl, rfl, inT3, (mI 248 (by decide +kernel) rfl), tyX3_ok, nmX3, by decide +kernel⟩
theorem fpi_X4_11 : FPI RX4 11 4 0 (tyX4 0) := ⟨RX4, TX4, 2, tyX4, rfl, rfl, by decide, rfl, rfl, inT4, (mI 273 (by decide +kernel) rfl), tyX4_ok, nmX4, by decide +kernel⟩
theorem fpi_X4_17 : FPI RX4 17 4 1 .int := ⟨RX4, TX4, 2, tyX4, rfl, rfl, by decide, rfl, rfl, inT4, (mI 280 (by decide +kernel) rfl), tyX4_ok, nmX4, by decide +kernel⟩
theorem fpi_X5_9 : FPI RX5 9 5 3 .int := ⟨RX5, TX5, 5, tyX5, rfl, rfl, by decide, rfl, rfl, inT5, (mI 397 (by decide +kernel) rfl), tyX5_ok, nmX5, by decide +kernel⟩
theorem fpi_X5_15 : FPI RX5 15 5 4 .int := ⟨RX5, TX5, 5, tyX5, rfl, rfl, by decide, rfl, rfl, inT5, (mI 398 (by decide +kernel) rfl), tyX5_ok, nmX5, by decide +kernel⟩
theorem fpi_X5_18 : FPI RX5 18 5 0 (tyX5 0) := ⟨RX5, TX5, 5, tyX5, rfl, rfl, by decide, rfl, rfl, inT5, (mI 394 (by decide +kernel) rfl), tyX5_ok, nmX5, by decide +kernel⟩
theorem fpi_X5_22 : FPI RX5 22 5 1 (tyX5 1) := ⟨RX5, TX5, 5, tyX5, rfl, rfl, by decide, rfl, rfl, inT5, (mI 395 (by decide +kernel) rfl), tyX5_ok, nmX5, by decide +kernel⟩
theorem fpi_X5_26 : FPI RX5 26 5 2 (tyX5 2) := ⟨RX5, TX5, 5, tyX5, rfl, rfl, by decide, rfl, rfl, inT5, (mI 396 (by decide +kernel) rfl), tyX5_ok, nmX5, by decide +kernel⟩
theorem fpi_X6_9 : FPI RX6 9 6 1 (tyX6 1) := ⟨RX6, TX6, 8, tyX6, rfl, rfl, by decide, rfl, rfl, inT6, (mI 298 (by decide +kernel) rfl), tyX6_ok, nmX6, by decide +kernel⟩
theorem fpi_X6_15 : FPI RX6 15 6 2 (tyX6 2) := ⟨RX6, TX6, 8, tyX6, rfl, rfl, by decide, rfl, rfl, inT6, (mI 299 (by decide +kernel) rfl), tyX6_ok, nmX6, by decide +kernel⟩
theorem fpi_X6_18 : FPI RX6 18 6 3 .boolean := ⟨RX6, TX6, 8, tyX6, rfl, rfl, by decide, rfl, rfl, inT6, (mI 300 (by decide +kernel) rfl), tyX6_ok, nmX6, by decide +kernel⟩
theorem fpi_X6_22 : FPI RX6 22 6 4 (tyX6 4) := ⟨RX6, TX6, 8, tyX6, rfl, rfl, by decide, rfl, rfl, inT6, (mI 301 (by decide +kernel) rfl), tyX6_ok, nmX6, by decide +kernel⟩
theorem fpi_X6_25 : FPI RX6 25 6 5 (tyX6 5) := ⟨RX6, TX6, 8, tyX6, rfl, rfl, by decide, rfl, rfl, inT6, (mI 303 (by decide +kernel) rfl), tyX6_ok, nmX6, by decide +kernel⟩
theorem fpi_X6_28 : FPI RX6 28 6 6 (tyX6 6) := ⟨RX6, TX6, 8, tyX6, rfl, rfl, by decide, rfl, rfl, inT6, (mI 304 (by decide +kernel) rfl), tyX6_ok, nmX6, by decide +kernel⟩
theorem fpi_X6_31 : FPI RX6 31 6 7 .int := ⟨RX6, TX6, 8, tyX6, rfl, rfl, by decide, rfl, rfl, inT6, (mI 306 (by decide +kernel) rfl), tyX6_ok, nmX6, by decide +kernel⟩
theorem fpi_X6_35 : FPI RX6 35 6 0 (tyX6 0) := ⟨RX6, TX6, 8, tyX6, rfl, rfl, by decide, rfl, rfl, inT6, (mI 297 (by decide +kernel) rfl), tyX6_ok, nmX6, by decide +kernel⟩
theorem fpi_X7_9 : FPI RX7 9 7 2 .int := ⟨RX7, TX7, 4, tyX7, rfl, rfl, by decide, rfl, rfl, inT7, (mI 377 (by decide +kernel) rfl), tyX7_ok, nmX7, by decide +kernel⟩
theorem fpi_X7_15 : FPI RX7 15 7 3 .int := ⟨RX7, TX7, 4, tyX7, rfl, rfl, by decide, rfl, rfl, inT7, (mI 378 (by decide +kernel) rfl), tyX7_ok, nmX7, by decide +kernel⟩
theorem fpi_X7_18 : FPI RX7 18 7 0 (tyX7 0) := ⟨RX7, TX7, 4, tyX7, rfl, rfl, by decide, rfl, rfl, inT7, (mI 375 (by decide +kernel) rfl), tyX7_ok, nmX7, by decide +kernel⟩
theorem fpi_X7_22 : FPI RX7 22 7 1 (tyX7 1) := ⟨RX7, TX7, 4, tyX7, rfl, rfl, by decide, rfl, rfl, inT7, (mI 376 (by decide +kernel) rfl), tyX7_ok, nmX7, by decide +kernel⟩
theorem fpi_X8_9 : FPI RX8 9 8 1 (tyX8 1) := ⟨RX8, TX8, 11, tyX8, rfl, rfl, by decide, rfl, rfl, inT8, (mI 332 (by decide +kernel) rfl), tyX8_ok, nmX8, by decide +kernel⟩
theorem fpi_X8_15 : FPI RX8 15 8 2 (tyX8 2) := ⟨RX8, TX8, 11, tyX8, rfl, rfl, by decide, rfl, rfl, inT8, (mI 333 (by decide +kernel) rfl), tyX8_ok, nmX8, by decide +kernel⟩
theorem fpi_X8_18 : FPI RX8 18 8 3 .int := ⟨RX8, TX8, 11, tyX8, rfl, rfl, by decide, rfl, rfl, inT8, (mI 334 (by decide +kernel) rfl), tyX8_ok, nmX8, by decide +kernel⟩
theorem fpi_X8_22 : FPI RX8 22 8 4 .int := ⟨RX8, TX8, 11, tyX8, rfl, rfl, by decide, rfl, rfl, inT8, (mI 336 (by decide +kernel) rfl), tyX8_ok, nmX8, by decide +kernel⟩
theorem fpi_X8_25 : FPI RX8 25 8 5 .int := ⟨RX8, TX8, 11, tyX8, rfl, rfl, by decide, rfl, rfl, inT8, (mI 338 (by decide +kernel) rfl), tyX8_ok, nmX8, by decide +kernel⟩
theorem fpi_X8_28 : FPI RX8 28 8 6 .int := ⟨RX8, TX8, 11, tyX8, rfl, rfl, by decide, rfl, rfl, inT8, (mI 340 (by decide +kernel) rfl), tyX8_ok, nmX8, by decide +kernel⟩
theorem fpi_X8_31 : FPI RX8 31 8 7 (tyX8 7) := ⟨RX8, TX8, 11, tyX8, rfl, rfl, by decide, rfl, rfl, inT8, (mI 342 (by decide +kernel) rfl), tyX8_ok, nmX8, by decide +kernel⟩
theorem fpi_X8_34 : FPI RX8 34 8 8 (tyX8 8) := ⟨RX8, TX8, 11, tyX8, rfl, rfl, by decide, rfl, rfl, inT8, (mI 343 (by decide +kernel) rfl), tyX8_ok, nmX8, by decide +kernel⟩
theorem fpi_X8_37 : FPI RX8 37 8 9 (tyX8 9) := ⟨RX8, TX8, 11, tyX8, rfl, rfl, by decide, rfl, rfl, inT8, (mI 344 (by decide +kernel) rfl), tyX8_ok, nmX8, by decide +kernel⟩
theorem fpi_X8_40 : FPI RX8 40 8 10 (tyX8 10) := ⟨RX8, TX8, 11, tyX8, rfl, rfl, by decide, rfl, rfl, inT8, (mI 345 (by decide +kernel) rfl), tyX8_ok, nmX8, by decide +kernel⟩
theorem fpi_X8_43 : FPI RX8 43 8 0 (tyX8 0) := ⟨RX8, TX8, 11, tyX8, rfl, rfl, by decide, rfl, rfl, inT8, (mI 331 (by decide +kernel) rfl), tyX8_ok, nmX8, by decide +kernel⟩
theorem fpi_X9_9 : FPI RX9 9 9 3 (tyX9 3) := ⟨RX9, TX9, 9, tyX9, rfl, rfl, by decide, rfl, rfl, inT9, (mI 419 (by decide +kernel) rfl), tyX9_ok, nmX9, by decide +kernel⟩
theorem fpi_X9_15 : FPI RX9 15 9 4 .int := ⟨RX9, TX9, 9, tyX9, rfl, rfl, by decide, rfl, rfl, inT9, (mI 420 (by decide +kernel) rfl), tyX9_ok, nmX9, by decide +kernel⟩
theorem fpi_X9_19 : FPI RX9 19 9 5 .int := ⟨RX9, TX9, 9, tyX9, rfl, rfl, by decide, rfl, rfl, inT9, (mI 422 (by decide +kernel) rfl), tyX9_ok, nmX9, by decide +kernel⟩
theorem fpi_X9_22 : FPI RX9 22 9 6 .int := ⟨RX9, TX9, 9, tyX9, rfl, rfl, by decide, rfl, rfl, inT9, (mI 424 (by decide +kernel) rfl), tyX9_ok, nmX9, by decide +kernel⟩
theorem fpi_X9_25 : FPI RX9 25 9 7 .int := ⟨RX9, TX9, 9, tyX9, rfl, rfl, by decide, rfl, rfl, inT9, (mI 426 (by decide +kernel) rfl), tyX9_ok, nmX9, by decide +kernel⟩
theorem fpi_X9_28 : FPI RX9 28 9 8 .int := ⟨RX9, TX9, 9, tyX9, rfl, rfl, by decide, rfl, rfl, inT9, (mI 428 (by decide +kernel) rfl), tyX9_ok, nmX9, by decide +kernel⟩
theorem fpi_X9_31 : FPI RX9 31 9 0 (tyX9 0) := ⟨RX9, TX9, 9, tyX9, rfl, rfl, by decide, rfl, rfl, inT9, (mI 416 (by decide +kernel) rfl), tyX9_ok, nmX9, by decide +kernel⟩
theorem fpi_X9_35 : FPI RX9 35 9 1 (tyX9 1) := ⟨RX9, TX9, 9, tyX9, rfl, rfl, by decide, rfl, rfl, inT9, (mI 417 (by decide +kernel) rfl), tyX9_ok, nmX9, by decide +kernel⟩
theorem fpi_X9_39 : FPI RX9 39 9 2 (tyX9 2) := ⟨RX9, TX9, 9, tyX9, rfl, rfl, by decide, rfl, rfl, inT9, (mI 418 (by decide +kernel) rfl), tyX9_ok, nmX9, by decide +kernel⟩
theorem oi_X0_3 : OI RX0 3 := ⟨(mI 149 (by decide +kernel) rfl), (mI 142 (by decide +kernel) rfl), (mI 143 (by decide +kernel) rfl)⟩
theorem oi_X1_3 : OI RX1 3 := ⟨(mI 166 (by decide +kernel) rfl), (mI 142 (by decide +kernel) rfl), (mI 143 (by decide +kernel) rfl)⟩
theorem oi_X10_1 : OI RX10 1 := ⟨(mI 141 (by decide +kernel) rfl), (mI 142 (by decide +kernel) rfl), (mI 143 (by decide +kernel) rfl)⟩
theorem oi_X11_1 : OI RX11 1 := ⟨(mI 1032 (by decide +kernel) rfl), (mI 142 (by decide +kernel) rfl), (mI 143 (by decide +kernel) rfl)⟩
theorem oi_X2_3 : OI RX2 3 := ⟨(mI 205 (by decide +kernel) rfl), (mI 142 (by decide +kernel) rfl), (mI 143 (by decide +kernel) rfl)⟩
theorem oi_X3_3 : OI RX3 3 := ⟨(mI 198 (by decide +kernel) rfl), (mI 142 (by decide +kernel) rfl), (mI 143 (by decide +kernel) rfl)⟩
theorem oi_X4_3 : OI RX4 3 := ⟨(mI 191 (by decide +kernel) rfl), (mI 142 (by decide +kernel) rfl), (mI 143 (by decide +kernel) rfl)⟩
theorem oi_X5_3 : OI RX5 3 := ⟨(mI 393 (by decide +kernel) rfl), (mI 142 (by decide +kernel) rfl), (mI 143 (by decide +kernel) rfl)⟩
theorem oi_X6_3 : OI RX6 3 := ⟨(mI 296 (by decide +kernel) rfl), (mI 142 (by decide +kernel) rfl), (mI 143 (by decide +kernel) rfl)⟩
theorem oi_X7_3 : OI RX7 3 := ⟨(mI 374 (by decide +kernel) rfl), (mI 142 (by decide +kernel) rfl), (mI 143 (by decide +kernel) rfl)⟩
theorem oi_X8_3 : OI RX8 3 := ⟨(mI 330 (by decide +kernel) rfl), (mI 142 (by decide +kernel) rfl), (mI 143 (by decide +kernel) rfl)⟩
theorem oi_X9_3 : OI RX9 3 := ⟨(mI 415 (by decide +kernel) rfl), (mI 142 (by decide +kernel) rfl), (mI 143 (by decide +kernel) rfl)⟩
theorem cmi_X10_11 : CM RX10 11 yX0_init cX0_init 2 none 1 ∧ Cond.instanceMethod yX0_init ∈ TB := ⟨⟨Or.inr ⟨"DecoderForge", (mI 146 (by decide +kernel) rfl)⟩, (mI 121 (by decide +kernel) rfl), (mI 148 (by decide +kernel) rfl), by decide, by decide, by decide +kernel⟩, (mI 147 (by decide +kernel) rfl)⟩
theorem cmi_X10_20 : CM RX10 20 yX1_init cX1_init 1 none 0 ∧ Cond.instanceMethod yX1_init ∈ TB := ⟨⟨Or.inr ⟨"DecoderForge", (mI 163 (by decide +kernel) rfl)⟩, (mI 122 (by decide +kernel) rfl), (mI 165 (by decide +kernel) rfl), by decide, by decide, by decide +kernel⟩, (mI 164 (by decide +kernel) rfl)⟩
theorem cmi_X10_45 : CM RX10 45 yX4_init cX4_init 2 none 0 ∧ Cond.instanceMethod yX4_init ∈ TB := ⟨⟨Or.inr ⟨"DecoderForge", (mI 188 (by decide +kernel) rfl)⟩, (mI 123 (by decide +kernel) rfl), (mI 190 (by decide +kernel) rfl), by decide, by decide, by decide +kernel⟩, (mI 189 (by decide +kernel) rfl)⟩
theorem cmi_X10_48 : CM RX10 48 yX6_init cX6_init 2 none 1 ∧ Cond.instanceMethod yX6_init ∈ TB := ⟨⟨Or.inr ⟨"DecoderForge", (mI 293 (by decide +kernel) rfl)⟩, (mI 126 (by decide +kernel) rfl), (mI 295 (by decide +kernel) rfl), by decide, by decide, by decide +kernel⟩, (mI 294 (by decide +kernel) rfl)⟩
theorem cmi_X10_67 : CM RX10 67 yX8_init cX8_init 2 none 1 ∧ Cond.instanceMethod yX8_init ∈ TB := ⟨⟨Or.inr ⟨"DecoderForge", (mI 327 (by decide +kernel) rfl)⟩, (mI 127 (by decide +kernel) rfl), (mI 329 (by decide +kernel) rfl), by decide, by decide, by decide +kernel⟩, (mI 328 (by decide +kernel) rfl)⟩
theorem cmi_X10_74 : CM RX10 74 yX7_init cX7_init 3 none 2 ∧ Cond.instanceMethod yX7_init ∈ TB := ⟨⟨Or.inr ⟨"DecoderForge", (mI 371 (by decide +kernel) rfl)⟩, (mI 128 (by decide +kernel) rfl), (mI 373 (by decide +kernel) rfl), by decide, by decide, by decide +kernel⟩, (mI 372 (by decide +kernel) rfl)⟩
theorem cmi_X10_83 : CM RX10 83 yX5_init cX5_init 4 none 3 ∧ Cond.instanceMethod yX5_init ∈ TB := ⟨⟨Or.inr ⟨"DecoderForge", (mI 390 (by decide +kernel) rfl)⟩, (mI 129 (by decide +kernel) rfl), (mI 392 (by decide +kernel) rfl), by decide, by decide, by decide +kernel⟩, (mI 391 (by decide +kernel) rfl)⟩
theorem cmi_X10_92 : CM RX10 92 yX9_init cX9_init 4 none 3 ∧ Cond.instanceMethod yX9_init ∈ TB := ⟨⟨Or.inr ⟨"DecoderForge", (mI 412 (by decide +kernel) rfl)⟩, (mI 130 (by decide +kernel) rfl), (mI 414 (by decide +kernel) rfl), by decide, by decide, by decide +kernel⟩, (mI 413 (by decide +kernel) rfl)⟩
theorem cmi_X3_49 : CM RX3 49 yX2_init cX2_init 2 none 1 ∧ Cond.instanceMethod yX2_init ∈ TB := ⟨⟨Or.inr ⟨"DecoderForge", (mI 202 (by decide +kernel) rfl)⟩, (mI 125 (by decide +kernel) rfl), (mI 204 (by decide +kernel) rfl), by decide, by decide, by decide +kernel⟩, (mI 203 (by decide +kernel) rfl)⟩
theorem cmi_X4_21 : CM RX4 21 yX3_init cX3_init 2 none 0 ∧ Cond.instanceMethod yX3_init ∈ TB := ⟨⟨Or.inr ⟨"DecoderForge", (mI 195 (by decide +kernel) rfl)⟩, (mI 124 (by decide +kernel) rfl), (mI 197 (by decide +kernel) rfl), by decide, by decide, by decide +kernel⟩, (mI 196 (by decide +kernel) rfl)⟩
