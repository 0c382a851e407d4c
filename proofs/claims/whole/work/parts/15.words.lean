section AVAR
variable {R : Type} {K : Kt} {Rm : Room} {X : Xt} {cc : ByteArray} {nL : Nat} {own : String} {ret : Option FieldType} {fin : R → Mem → State → Prop} {cells slots pc nx : Nat} {ls : List (Nat × Value)} {st : List Value} {σ : Mem} {ex : Option (R × Mem)}
variable {y : MethodName} {cc1 : ByteArray} {nL1 n idx : Nat} {ret1 : Option FieldType} {rm1 : Room} {As : List Value} {st0 : List Value} {k ci N : Nat} {T : u_T}
theorem ge_callViA {fe : Option (Int32 × Mem)} {f : Int32 → Mem → Option (R × Mem)} (hc : CMV own idx y cc1 nL1 ret1 n) (hd : Dc cc pc (.invokevirtual idx) 3 nx) (hk : Is ci k) (hcl : vwCl[ci]? = some (y.cls, T, N)) (hM : Ct (kl K) y cc1 nL1 ret1 rm1 ιI X (.ref (xad X k) :: As) σ fe) (hn : As.length = n) (hst : st0 = As.reverse ++ .ref (xad X k) :: st) (hcat : (st.map fun v => v.category).sum ≤ 8) (hR : rm1.frames + 1 ≤ Rm.frames ∧ 8 + (nL1 + 11) + rm1.locals ≤ Rm.locals) {dc ds : Nat} (hz : rm1.cells = dc ∧ rm1.slots = ds) (hf : cells + dc ≤ Rm.cells ∧ slots + ds ≤ Rm.slots)
    (kk : ∀ r1 σ1, GE K Rm X cc nL own ret fin (cells + dc) (slots + ds) nx ls (.int r1 :: st) σ1 (f r1 σ1)) : GE K Rm X cc nL own ret fin cells slots pc ls st0 σ (cl fe f) := by
  obtain ⟨rfl, rfl⟩ := hz
  exact ge_callVi hc hd hk hcl hM hn hst hcat hR hf kk
theorem ge_callVvA {fe : Option (Unit × Mem)} {f : Unit → Mem → Option (R × Mem)} (hc : CMV own idx y cc1 nL1 ret1 n) (hd : Dc cc pc (.invokevirtual idx) 3 nx) (hk : Is ci k) (hcl : vwCl[ci]? = some (y.cls, T, N)) (hM : Ct (kl K) y cc1 nL1 ret1 rm1 ιV X (.ref (xad X k) :: As) σ fe) (hn : As.length = n) (hst : st0 = As.reverse ++ .ref (xad X k) :: st) (hcat : (st.map fun v => v.category).sum ≤ 8) (hR : rm1.frames + 1 ≤ Rm.frames ∧ 8 + (nL1 + 11) + rm1.locals ≤ Rm.locals) {dc ds : Nat} (hz : rm1.cells = dc ∧ rm1.slots = ds) (hf : cells + dc ≤ Rm.cells ∧ slots + ds ≤ Rm.slots)
    (kk : ∀ σ1, GE K Rm X cc nL own ret fin (cells + dc) (slots + ds) nx ls st σ1 (f () σ1)) : GE K Rm X cc nL own ret fin cells slots pc ls st0 σ (cl fe f) := by
  obtain ⟨rfl, rfl⟩ := hz
  exact ge_callVv hc hd hk hcl hM hn hst hcat hR hf kk
end AVAR
theorem mI {w : Cond} (i : Nat) (h : lw_tbl[i]? = some w) (h2 : okW w = true) : w ∈ TB := mTB (List.mem_of_getElem? h) h2
theorem inT0 : ∀ w ∈ u_ws RX0 TX0 2, w ∈ TB := fun w h => mTB ((by decide +kernel : ∀ w ∈ u_ws RX0 TX0 2, w ∈ lw_tbl) w h) ((by decide +kernel : ∀ w ∈ u_ws RX0 TX0 2, okW w = true) w h)
theorem inT1 : ∀ w ∈ u_ws RX1 TX1 4, w ∈ TB := fun w h => mTB ((by decide +kernel : ∀ w ∈ u_ws RX1 TX1 4, w ∈ lw_tbl) w h) ((by decide +kernel : ∀ w ∈ u_ws RX1 TX1 4, okW w = true) w h)
theorem inT2 : ∀ w ∈ u_ws RX2 TX2 4, w ∈ TB := fun w h => mTB ((by decide +kernel : ∀ w ∈ u_ws RX2 TX2 4, w ∈ lw_tbl) w h) ((by decide +kernel : ∀ w ∈ u_ws RX2 TX2 4, okW w = true) w h)
theorem inT3 : ∀ w ∈ u_ws RX3 TX3 11, w ∈ TB := fun w h => mTB ((by decide +kernel : ∀ w ∈ u_ws RX3 TX3 11, w ∈ lw_tbl) w h) ((by decide +kernel : ∀ w ∈ u_ws RX3 TX3 11, okW w = true) w h)
theorem inT4 : ∀ w ∈ u_ws RX4 TX4 2, w ∈ TB := fun w h => mTB ((by decide +kernel : ∀ w ∈ u_ws RX4 TX4 2, w ∈ lw_tbl) w h) ((by decide +kernel : ∀ w ∈ u_ws RX4 TX4 2, okW w = true) w h)
theorem inT5 : ∀ w ∈ u_ws RX5 TX5 5, w ∈ TB := fun w h => mTB ((by decide +kernel : ∀ w ∈ u_ws RX5 TX5 5, w ∈ lw_tbl) w h) ((by decide +kernel : ∀ w ∈ u_ws RX5 TX5 5, okW w = true) w h)
theorem inT6 : ∀ w ∈ u_ws RX6 TX6 8, w ∈ TB := fun w h => mTB ((by decide +kernel : ∀ w ∈ u_ws RX6 TX6 8, w ∈ lw_tbl) w h) ((by decide +kernel : ∀ w ∈ u_ws RX6 TX6 8, okW w = true) w h)
theorem inT7 : ∀ w ∈ u_ws RX7 TX7 4, w ∈ TB := fun w h => mTB ((by decide +kernel : ∀ w ∈ u_ws RX7 TX7 4, w ∈ lw_tbl) w h) ((by decide +kernel : ∀ w ∈ u_ws RX7 TX7 4, okW w = true) w h)
theorem inT8 : ∀ w ∈ u_ws RX8 TX8 11, w ∈ TB := fun w h => mTB ((by decide +kernel : ∀ w ∈ u_ws RX8 TX8 11, w ∈ lw_tbl) w h) ((by decide +kernel : ∀ w ∈ u_ws RX8 TX8 11, okW w = true) w h)
theorem inT9 : ∀ w ∈ u_ws RX9 TX9 9, w ∈ TB := fun w h => mTB ((by decide +kernel : ∀ w ∈ u_ws RX9 TX9 9, w ∈ lw_tbl) w h) ((by decide +kernel : ∀ w ∈ u_ws RX9 TX9 9, okW w = true) w h)
theorem inT10 : ∀ w ∈ u_ws RX10 TX10 15, w ∈ TB := fun w h => mTB ((by decide +kernel : ∀ w ∈ u_ws RX10 TX10 15, w ∈ lw_tbl) w h) ((by decide +kernel : ∀ w ∈ u_ws RX10 TX10 15, okW w = true) w h)
theorem inT11 : ∀ w ∈ u_ws RX11 TX11 38, w ∈ TB := fun w h => mTB ((by decide +kernel : ∀ w ∈ u_ws RX11 TX11 38, w ∈ lw_tbl) w h) ((by decide +kernel : ∀ w ∈ u_ws RX11 TX11 38, okW w = true) w h)
theorem fl_X0_9 : FL RX0 9 0 1 := ⟨RX0, TX0, 2, rfl, rfl, by decide, rfl, inT0, Or.inl (mI 151 (by decide +kernel) rfl)⟩
theorem fl_X0_15 : FL RX0 15 0 0 := ⟨RX0, TX0, 2, rfl, rfl, by decide, rfl, inT0, Or.inl (mI 150 (by decide +kernel) rfl)⟩
theorem fl_X1_9 : FL RX1 9 1 0 := ⟨RX1, TX1, 4, rfl, rfl, by decide, rfl, inT1, Or.inl (mI 167 (by decide +kernel) rfl)⟩
theorem fl_X1_15 : FL RX1 15 1 1 := ⟨RX1, TX1, 4, rfl, rfl, by decide, rfl, inT1, Or.inl (mI 170 (by decide +kernel) rfl)⟩
theorem fl_X1_18 : FL RX1 18 1 2 := ⟨RX1, TX1, 4, rfl, rfl, by decide, rfl, inT1, Or.inl (mI 172 (by decide +kernel) rfl)⟩
theorem fl_X1_21 : FL RX1 21 1 3 := ⟨RX1, TX1, 4, rfl, rfl, by decide, rfl, inT1, Or.inl (mI 174 (by decide +kernel) rfl)⟩
theorem fl_X10_14 : FL RX10 14 10 4 := ⟨RX10, TX10, 15, rfl, rfl, by decide, rfl, inT10, Or.inl (mI 453 (by decide +kernel) rfl)⟩
theorem fl_X10_21 : FL RX10 21 10 9 := ⟨RX10, TX10, 15, rfl, rfl, by decide, rfl, inT10, Or.inl (mI 458 (by decide +kernel) rfl)⟩
theorem fl_X10_25 : FL RX10 25 10 10 := ⟨RX10, TX10, 15, rfl, rfl, by decide, rfl, inT10, Or.inl (mI 459 (by decide +kernel) rfl)⟩
theorem fl_X10_29 : FL RX10 29 10 11 := ⟨RX10, TX10, 15, rfl, rfl, by decide, rfl, inT10, Or.inl (mI 460 (by decide +kernel) rfl)⟩
theorem fl_X10_33 : FL RX10 33 10 12 := ⟨RX10, TX10, 15, rfl, rfl, by decide, rfl, inT10, Or.inl (mI 461 (by decide +kernel) rfl)⟩
theorem fl_X10_36 : FL RX10 36 10 13 := ⟨RX10, TX10, 15, rfl, rfl, by decide, rfl, inT10, Or.inl (mI 462 (by decide +kernel) rfl)⟩
theorem fl_X10_39 : FL RX10 39 10 14 := ⟨RX10, TX10, 15, rfl, rfl, by decide, rfl, inT10, Or.inl (mI 463 (by decide +kernel) rfl)⟩
theorem fl_X10_51 : FL RX10 51 10 0 := ⟨RX10, TX10, 15, rfl, rfl, by decide, rfl, inT10, Or.inl (mI 449 (by decide +kernel) rfl)⟩
theorem fl_X10_55 : FL RX10 55 10 1 := ⟨RX10, TX10, 15, rfl, rfl, by decide, rfl, inT10, Or.inl (mI 450 (by decide +kernel) rfl)⟩
theorem fl_X10_59 : FL RX10 59 10 3 := ⟨RX10, TX10, 15, rfl, rfl, by decide, rfl, inT10, Or.inl (mI 452 (by decide +kernel) rfl)⟩
theorem fl_X10_62 : FL RX10 62 10 7 := ⟨RX10, TX10, 15, rfl, rfl, by decide, rfl, inT10, Or.inl (mI 456 (by decide +kernel) rfl)⟩
theorem fl_X10_68 : FL RX10 68 10 2 := ⟨RX10, TX10, 15, rfl, rfl, by decide, rfl, inT10, Or.inl (mI 451 (by decide +kernel) rfl)⟩
theorem fl_X10_77 : FL RX10 77 10 5 := ⟨RX10, TX10, 15, rfl, rfl, by decide, rfl, inT10, Or.inl (mI 454 (by decide +kernel) rfl)⟩
theorem fl_X10_86 : FL RX10 86 10 6 := ⟨RX10, TX10, 15, rfl, rfl, by decide, rfl, inT10, Or.inl (mI 455 (by decide +kernel) rfl)⟩
theorem fl_X10_95 : FL RX10 95 10 8 := ⟨RX10, TX10, 15, rfl, rfl, by decide, rfl, inT10, Or.inl (mI 457 (by decide +kernel) rfl)⟩
theorem fl_X10_107 : FL RX10 107 0 1 := ⟨RX0, TX0, 2, rfl, rfl, by decide, rfl, inT0, Or.inr ⟨"DecoderForge", (mI 152 (by decide +kernel) rfl)⟩⟩
theorem fl_X10_120 : FL RX10 120 4 1 := ⟨RX4, TX4, 2, rfl, rfl, by decide, rfl, inT4, Or.inr ⟨"DecoderForge", (mI 285 (by decide +kernel) rfl)⟩⟩
theorem fl_X10_127 : FL RX10 127 4 0 := ⟨RX4, TX4, 2, rfl, rfl, by decide, rfl, inT4, Or.inr ⟨"DecoderForge", (mI 279 (by decide +kernel) rfl)⟩⟩
theorem fl_X10_131 : FL RX10 131 3 0 := ⟨RX3, TX3, 11, rfl, rfl, by decide, rfl, inT3, Or.inr ⟨"DecoderForge", (mI 226 (by decide +kernel) rfl)⟩⟩
theorem fl_X10_136 : FL RX10 136 3 2 := ⟨RX3, TX3, 11, rfl, rfl, by decide, rfl, inT3, Or.inr ⟨"DecoderForge", (mI 233 (by decide +kernel) rfl)⟩⟩
theorem fl_X10_139 : FL RX10 139 3 3 := ⟨RX3, TX3, 11, rfl, rfl, by decide, rfl, inT3, Or.inr ⟨"DecoderForge", (mI 237 (by decide +kernel) rfl)⟩⟩
theorem fl_X10_142 : FL RX10 142 3 6 := ⟨RX3, TX3, 11, rfl, rfl, by decide, rfl, inT3, Or.inr ⟨"DecoderForge", (mI 244 (by decide +kernel) rfl)⟩⟩
theorem fl_X10_145 : FL RX10 145 3 10 := ⟨RX3, TX3, 11, rfl, rfl, by decide, rfl, inT3, Or.inr ⟨"DecoderForge", (mI 249 (by decide +kernel) rfl)⟩⟩
theorem fl_X10_148 : FL RX10 148 3 1 := ⟨RX3, TX3, 11, rfl, rfl, by decide, rfl, inT3, Or.inr ⟨"DecoderForge", (mI 229 (by decide +kernel) rfl)⟩⟩
theorem fl_X10_184 : FL RX10 184 6 4 := ⟨RX6, TX6, 8, rfl, rfl, by decide, rfl, inT6, Or.inr ⟨"DecoderForge", (mI 302 (by decide +kernel) rfl)⟩⟩
theorem fl_X10_190 : FL RX10 190 6 6 := ⟨RX6, TX6, 8, rfl, rfl, by decide, rfl, inT6, Or.inr ⟨"DecoderForge", (mI 305 (by decide +kernel) rfl)⟩⟩
theorem fl_X10_199 : FL RX10 199 6 7 := ⟨RX6, TX6, 8, rfl, rfl, by decide, rfl, inT6, Or.inr ⟨"DecoderForge", (mI 307 (by decide +kernel) rfl)⟩⟩
theorem fl_X10_208 : FL RX10 208 8 3 := ⟨RX8, TX8, 11, rfl, rfl, by decide, rfl, inT8, Or.inr ⟨"DecoderForge", (mI 335 (by decide +kernel) rfl)⟩⟩
theorem fl_X10_211 : FL RX10 211 8 4 := ⟨RX8, TX8, 11, rfl, rfl, by decide, rfl, inT8, Or.inr ⟨"DecoderForge", (mI 337 (by decide +kernel) rfl)⟩⟩
theorem fl_X10_214 : FL RX10 214 8 6 := ⟨RX8, TX8, 11, rfl, rfl, by decide, rfl, inT8, Or.inr ⟨"DecoderForge", (mI 341 (by decide +kernel) rfl)⟩⟩
theorem fl_X10_217 : FL RX10 217 8 5 := ⟨RX8, TX8, 11, rfl, rfl, by decide, rfl, inT8, Or.inr ⟨"DecoderForge", (mI 339 (by decide +kernel) rfl)⟩⟩
theorem fl_X10_229 : FL RX10 229 3 4 := ⟨RX3, TX3, 11, rfl, rfl, by decide, rfl, inT3, Or.inr ⟨"DecoderForge", (mI 240 (by decide +kernel) rfl)⟩⟩
theorem fl_X10_233 : FL RX10 233 2 2 := ⟨RX2, TX2, 4, rfl, rfl, by decide, rfl, inT2, Or.inr ⟨"DecoderForge", (mI 211 (by decide +kernel) rfl)⟩⟩
theorem fl_X10_238 : FL RX10 238 2 3 := ⟨RX2, TX2, 4, rfl, rfl, by decide, rfl, inT2, Or.inr ⟨"DecoderForge", (mI 213 (by decide +kernel) rfl)⟩⟩
theorem fl_X10_259 : FL RX10 259 1 1 := ⟨RX1, TX1, 4, rfl, rfl, by decide, rfl, inT1, Or.inr ⟨"DecoderForge", (mI 171 (by decide +kernel) rfl)⟩⟩
theorem fl_X10_282 : FL RX10 282 1 0 := ⟨RX1, TX1, 4, rfl, rfl, by decide, rfl, inT1, Or.inr ⟨"DecoderForge", (mI 169 (by decide +kernel) rfl)⟩⟩
theorem fl_X10_298 : FL RX10 298 9 5 := ⟨RX9, TX9, 9, rfl, rfl, by decide, rfl, inT9, Or.inr ⟨"DecoderForge", (mI 423 (by decide +kernel) rfl)⟩⟩
theorem fl_X10_301 : FL RX10 301 9 6 := ⟨RX9, TX9, 9, rfl, rfl, by decide, rfl, inT9, Or.inr ⟨"DecoderForge", (mI 425 (by decide +kernel) rfl)⟩⟩
theorem fl_X10_304 : FL RX10 304 9 7 := ⟨RX9, TX9, 9, rfl, rfl, by decide, rfl, inT9, Or.inr ⟨"DecoderForge", (mI 427 (by decide +kernel) rfl)⟩⟩
theorem fl_X10_307 : FL RX10 307 9 4 := ⟨RX9, TX9, 9, rfl, rfl, by decide, rfl, inT9, Or.inr ⟨"DecoderForge", (mI 421 (by decide +kernel) rfl)⟩⟩
theorem fl_X10_310 : FL RX10 310 9 8 := ⟨RX9, TX9, 9, rfl, rfl, by decide, rfl, inT9, Or.inr ⟨"DecoderForge", (mI 429 (by decide +kernel) rfl)⟩⟩
theorem fl_X10_316 : FL RX10 316 1 3 := ⟨RX1, TX1, 4, rfl, rfl, by decide, rfl, inT1, Or.inr ⟨"DecoderForge", (mI 175 (by decide +kernel) rfl)⟩⟩
theorem fl_X10_322 : FL RX10 322 1 2 := ⟨RX1, TX1, 4, rfl, rfl, by decide, rfl, inT1, Or.inr ⟨"DecoderForge", (mI 173 (by decide +kernel) rfl)⟩⟩
theorem fl_X11_7 : FL RX11 7 11 0 := ⟨RX11, TX11, 38, rfl, rfl, by decide, rfl, inT11, Or.inl (mI 1033 (by decide +kernel) rfl)⟩
theorem fl_X11_13 : FL RX11 13 11 1 := ⟨RX11, TX11, 38, rfl, rfl, by decide, rfl, inT11, Or.inl (mI 1034 (by decide +kernel) rfl)⟩
theorem fl_X11_16 : FL RX11 16 11 2 := ⟨RX11, TX11, 38, rfl, rfl, by decide, rfl, inT11, Or.inl (mI 1035 (by decide +kernel) rfl)⟩
theorem fl_X11_19 : FL RX11 19 11 3 := ⟨RX11, TX11, 38, rfl, rfl, by decide, rfl, inT11, Or.inl (mI 1036 (by decide +kernel) rfl)⟩
theorem fl_X11_22 : FL RX11 22 11 4 := ⟨RX11, TX11, 38, rfl, rfl, by decide, rfl, inT11, Or.inl (mI 1037 (by decide +kernel) rfl)⟩
theorem fl_X11_25 : FL RX11 25 11 5 := ⟨RX11, TX11, 38, rfl, rfl, by decide, rfl, inT11, Or.inl (mI 1038 (by decide +kernel) rfl)⟩
theorem fl_X11_28 : FL RX11 28 11 6 := ⟨RX11, TX11, 38, rfl, rfl, by decide, rfl, inT11, Or.inl (mI 1039 (by decide +kernel) rfl)⟩
theorem fl_X11_31 : FL RX11 31 11 7 := ⟨RX11, TX11, 38, rfl, rfl, by decide, rfl, inT11, Or.inl (mI 1040 (by decide +kernel) rfl)⟩
theorem fl_X11_34 : FL RX11 34 11 9 := ⟨RX11, TX11, 38, rfl, rfl, by decide, rfl, inT11, Or.inl (mI 1042 (by decide +kernel) rfl)⟩
theorem fl_X11_37 : FL RX11 37 11 10 := ⟨RX11, TX11, 38, rfl, rfl, by decide, rfl, inT11, Or.inl (mI 1043 (by decide +kernel) rfl)⟩
theorem fl_X11_40 : FL RX11 40 11 12 := ⟨RX11, TX11, 38, rfl, rfl, by decide, rfl, inT11, Or.inl (mI 1045 (by decide +kernel) rfl)⟩
theorem fl_X11_43 : FL RX11 43 11 14 := ⟨RX11, TX11, 38, rfl, rfl, by decide, rfl, inT11, Or.inl (mI 1047 (by decide +kernel) rfl)⟩
theorem fl_X11_46 : FL RX11 46 11 16 := ⟨RX11, TX11, 38, rfl, rfl, by decide, rfl, inT11, Or.inl (mI 1049 (by decide +kernel) rfl)⟩
theorem fl_X11_49 : FL RX11 49 11 17 := ⟨RX11, TX11, 38, rfl, rfl, by decide, rfl, inT11, Or.inl (mI 1050 (by decide +kernel) rfl)⟩
theorem fl_X11_52 : FL RX11 52 11 19 := ⟨RX11, TX11, 38, rfl, rfl, by decide, rfl, inT11, Or.inl (mI 1052 (by decide +kernel) rfl)⟩
theorem fl_X11_55 : FL RX11 55 11 20 := ⟨RX11, TX11, 38, rfl, rfl, by decide, rfl, inT11, Or.inl (mI 1053 (by decide +kernel) rfl)⟩
theorem fl_X11_58 : FL RX11 58 11 21 := ⟨RX11, TX11, 38, rfl, rfl, by decide, rfl, inT11, Or.inl (mI 1054 (by decide +kernel) rfl)⟩
theorem fl_X11_61 : FL RX11 61 11 22 := ⟨RX11, TX11, 38, rfl, rfl, by decide, rfl, inT11, Or.inl (mI 1055 (by decide +kernel) rfl)⟩
theorem fl_X11_64 : FL RX11 64 11 23 := ⟨RX11, TX11, 38, rfl, rfl, by decide, rfl, inT11, Or.inl (mI 1056 (by decide +kernel) rfl)⟩
theorem fl_X11_67 : FL RX11 67 11 24 := ⟨RX11, TX11, 38, rfl, rfl, by decide, rfl, inT11, Or.inl (mI 1057 (by decide +kernel) rfl)⟩
theorem fl_X11_70 : FL RX11 70 11 34 := ⟨RX11, TX11, 38, rfl, rfl, by decide, rfl, inT11, Or.inl (mI 1067 (by decide +kernel) rfl)⟩
theorem fl_X11_73 : FL RX11 73 11 35 := ⟨RX11, TX11, 38, rfl, rfl, by decide, rfl, inT11, Or.inl (mI 1068 (by decide +kernel) rfl)⟩
theorem fl_X11_76 : FL RX11 76 11 8 := ⟨RX11, TX11, 38, rfl, rfl, by decide, rfl, inT11, Or.inl (mI 1041 (by decide +kernel) rfl)⟩
theorem fl_X11_127 : FL RX11 127 11 11 := ⟨RX11, TX11, 38, rfl, rfl, by decide, rfl, inT11, Or.inl (mI 1044 (by decide +kernel) rfl)⟩
theorem fl_X11_131 : FL RX11 131 11 18 := ⟨RX11, TX11, 38, rfl, rfl, by decide, rfl, inT11, Or.inl (mI 1051 (by decide +kernel) rfl)⟩
theorem fl_X11_148 : FL RX11 148 11 13 := ⟨RX11, TX11, 38, rfl, rfl, by decide, rfl, inT11, Or.inl (mI 1046 (by decide +kernel) rfl)⟩
theorem fl_X11_153 : FL RX11 153 11 28 := ⟨RX11, TX11, 38, rfl, rfl, by decide, rfl, inT11, Or.inl (mI 1061 (by decide +kernel) rfl)⟩
theorem fl_X11_156 : FL RX11 156 11 30 := ⟨RX11, TX11, 38, rfl, rfl, by decide, rfl, inT11, Or.inl (mI 1063 (by decide +kernel) rfl)⟩
theorem fl_X11_159 : FL RX11 159 11 27 := ⟨RX11, TX11, 38, rfl, rfl, by decide, rfl, inT11, Or.inl (mI 1060 (by decide +kernel) rfl)⟩
theorem fl_X11_188 : FL RX11 188 11 29 := ⟨RX11, TX11, 38, rfl, rfl, by decide, rfl, inT11, Or.inl (mI 1062 (by decide +kernel) rfl)⟩
theorem fl_X11_259 : FL RX11 259 11 32 := ⟨RX11, TX11, 38, rfl, rfl, by decide, rfl, inT11, Or.inl (mI 1065 (by decide +kernel) rfl)⟩
theorem fl_X11_262 : FL RX11 262 11 33 := ⟨RX11, TX11, 38, rfl, rfl, by decide, rfl, inT11, Or.inl (mI 1066 (by decide +kernel) rfl)⟩
theorem fl_X11_265 : FL RX11 265 11 31 := ⟨RX11, TX11, 38, rfl, rfl, by decide, rfl, inT11, Or.inl (mI 1064 (by decide +kernel) rfl)⟩
theorem fl_X11_301 : FL RX11 301 11 15 := ⟨RX11, TX11, 38, rfl, rfl, by decide, rfl, inT11, Or.inl (mI 1048 (by decide +kernel) rfl)⟩
theorem fl_X11_319 : FL RX11 319 11 36 := ⟨RX11, TX11, 38, rfl, rfl, by decide, rfl, inT11, Or.inl (mI 1069 (by decide +kernel) rfl)⟩
theorem fl_X11_322 : FL RX11 322 11 37 := ⟨RX11, TX11, 38, rfl, rfl, by decide, rfl, inT11, Or.inl (mI 1070 (by decide +kernel) rfl)⟩
theorem fl_X11_355 : FL RX11 355 11 25 := ⟨RX11, TX11, 38, rfl, rfl, by decide, rfl, inT11, Or.inl (mI 1058 (by decide +kernel) rfl)⟩
theorem fl_X11_358 : FL RX11 358 11 26 := ⟨RX11, TX11, 38, rfl, rfl, by decide, rfl, inT11, Or.inl (mI 1059 (by decide +kernel) rfl)⟩
theorem fl_X2_9 : FL RX2 9 2 1 := ⟨RX2, TX2, 4, rfl, rfl, by decide, rfl, inT2, Or.inl (mI 207 (by decide +kernel) rfl)⟩
theorem fl_X2_15 : FL RX2 15 2 2 := ⟨RX2, TX2, 4, rfl, rfl, by decide, rfl, inT2, Or.inl (mI 208 (by decide +kernel) rfl)⟩
theorem fl_X2_19 : FL RX2 19 2 3 := ⟨RX2, TX2, 4, rfl, rfl, by decide, rfl, inT2, Or.inl (mI 212 (by decide +kernel) rfl)⟩
theorem fl_X2_22 : FL RX2 22 2 0 := ⟨RX2, TX2, 4, rfl, rfl, by decide, rfl, inT2, Or.inl (mI 206 (by decide +kernel) rfl)⟩
theorem fl_X3_9 : FL RX3 9 3 0 := ⟨RX3, TX3, 11, rfl, rfl, by decide, rfl, inT3, Or.inl (mI 223 (by decide +kernel) rfl)⟩
theorem fl_X3_18 : FL RX3 18 3 2 := ⟨RX3, TX3, 11, rfl, rfl, by decide, rfl, inT3, Or.inl (mI 231 (by decide +kernel) rfl)⟩
theorem fl_X3_21 : FL RX3 21 3 3 := ⟨RX3, TX3, 11, rfl, rfl, by decide, rfl, inT3, Or.inl (mI 234 (by decide +kernel) rfl)⟩
theorem fl_X3_26 : FL RX3 26 3 4 := ⟨RX3, TX3, 11, rfl, rfl, by decide, rfl, inT3, Or.inl (mI 238 (by decide +kernel) rfl)⟩
theorem fl_X3_30 : FL RX3 30 3 5 := ⟨RX3, TX3, 11, rfl, rfl, by decide, rfl, inT3, Or.inl (mI 241 (by decide +kernel) rfl)⟩
theorem fl_X3_34 : FL RX3 34 3 6 := ⟨RX3, TX3, 11, rfl, rfl, by decide, rfl, inT3, Or.inl (mI 242 (by decide +kernel) rfl)⟩
theorem fl_X3_37 : FL RX3 37 3 7 := ⟨RX3, TX3, 11, rfl, rfl, by decide, rfl, inT3, Or.inl (mI 245 (by decide +kernel) rfl)⟩
theorem fl_X3_40 : FL RX3 40 3 8 := ⟨RX3, TX3, 11, rfl, rfl, by decide, rfl, inT3, Or.inl (mI 246 (by decide +kernel) rfl)⟩
theorem fl_X3_43 : FL RX3 43 3 9 := ⟨RX3, TX3, 11, rfl, rfl, by decide, rfl, inT3, Or.inl (mI 247 (by decide +kernel) rfl)⟩
theorem fl_X3_46 : FL RX3 46 3 10 := ⟨RX3, TX3, 11, rfl, rfl, by decide, rfl, inT3, Or.inl (mI 248 (by decide +kernel) rfl)⟩
theorem fl_X3_59 : FL RX3 59 2 2 := ⟨RX2, TX2, 4, rfl, rfl, by decide, rfl, inT2, Or.inr ⟨"DecoderForge", (mI 209 (by decide +kernel) rfl)⟩⟩
theorem fl_X4_11 : FL RX4 11 4 0 := ⟨RX4, TX4, 2, rfl, rfl, by decide, rfl, inT4, Or.inl (mI 273 (by decide +kernel) rfl)⟩
theorem fl_X4_17 : FL RX4 17 4 1 := ⟨RX4, TX4, 2, rfl, rfl, by decide, rfl, inT4, Or.inl (mI 280 (by decide +kernel) rfl)⟩
theorem fl_X4_22 : FL RX4 22 3 1 := ⟨RX3, TX3, 11, rfl, rfl, by decide, rfl, inT3, Or.inr ⟨"DecoderForge", (mI 228 (by decide +kernel) rfl)⟩⟩
theorem fl_X5_9 : FL RX5 9 5 3 := ⟨RX5, TX5, 5, rfl, rfl, by decide, rfl, inT5, Or.inl (mI 397 (by decide +kernel) rfl)⟩
theorem fl_X5_15 : FL RX5 15 5 4 := ⟨RX5, TX5, 5, rfl, rfl, by decide, rfl, inT5, Or.inl (mI 398 (by decide +kernel) rfl)⟩
theorem fl_X5_18 : FL RX5 18 5 0 := ⟨RX5, TX5, 5, rfl, rfl, by decide, rfl, inT5, Or.inl (mI 394 (by decide +kernel) rfl)⟩
theorem fl_X5_22 : FL RX5 22 5 1 := ⟨RX5, TX5, 5, rfl, rfl, by decide, rfl, inT5, Or.inl (mI 395 (by decide +kernel) rfl)⟩
theorem fl_X5_26 : FL RX5 26 5 2 := ⟨RX5, TX5, 5, rfl, rfl, by decide, rfl, inT5, Or.inl (mI 396 (by decide +kernel) rfl)⟩
theorem fl_X5_40 : FL RX5 40 4 0 := ⟨RX4, TX4, 2, rfl, rfl, by decide, rfl, inT4, Or.inr ⟨"DecoderForge", (mI 274 (by decide +kernel) rfl)⟩⟩
theorem fl_X5_48 : FL RX5 48 0 1 := ⟨RX0, TX0, 2, rfl, rfl, by decide, rfl, inT0, Or.inr ⟨"DecoderForge", (mI 153 (by decide +kernel) rfl)⟩⟩
theorem fl_X5_70 : FL RX5 70 4 1 := ⟨RX4, TX4, 2, rfl, rfl, by decide, rfl, inT4, Or.inr ⟨"DecoderForge", (mI 284 (by decide +kernel) rfl)⟩⟩
theorem fl_X5_76 : FL RX5 76 3 3 := ⟨RX3, TX3, 11, rfl, rfl, by decide, rfl, inT3, Or.inr ⟨"DecoderForge", (mI 236 (by decide +kernel) rfl)⟩⟩
theorem fl_X5_81 : FL RX5 81 3 6 := ⟨RX3, TX3, 11, rfl, rfl, by decide, rfl, inT3, Or.inr ⟨"DecoderForge", (mI 243 (by decide +kernel) rfl)⟩⟩
theorem fl_X6_9 : FL RX6 9 6 1 := ⟨RX6, TX6, 8, rfl, rfl, by decide, rfl, inT6, Or.inl (mI 298 (by decide +kernel) rfl)⟩
theorem fl_X6_15 : FL RX6 15 6 2 := ⟨RX6, TX6, 8, rfl, rfl, by decide, rfl, inT6, Or.inl (mI 299 (by decide +kernel) rfl)⟩
theorem fl_X6_18 : FL RX6 18 6 3 := ⟨RX6, TX6, 8, rfl, rfl, by decide, rfl, inT6, Or.inl (mI 300 (by decide +kernel) rfl)⟩
theorem fl_X6_22 : FL RX6 22 6 4 := ⟨RX6, TX6, 8, rfl, rfl, by decide, rfl, inT6, Or.inl (mI 301 (by decide +kernel) rfl)⟩
theorem fl_X6_25 : FL RX6 25 6 5 := ⟨RX6, TX6, 8, rfl, rfl, by decide, rfl, inT6, Or.inl (mI 303 (by decide +kernel) rfl)⟩
theorem fl_X6_28 : FL RX6 28 6 6 := ⟨RX6, TX6, 8, rfl, rfl, by decide, rfl, inT6, Or.inl (mI 304 (by decide +kernel) rfl)⟩
theorem fl_X6_31 : FL RX6 31 6 7 := ⟨RX6, TX6, 8, rfl, rfl, by decide, rfl, inT6, Or.inl (mI 306 (by decide +kernel) rfl)⟩
theorem fl_X6_35 : FL RX6 35 6 0 := ⟨RX6, TX6, 8, rfl, rfl, by decide, rfl, inT6, Or.inl (mI 297 (by decide +kernel) rfl)⟩
theorem fl_X6_45 : FL RX6 45 4 1 := ⟨RX4, TX4, 2, rfl, rfl, by decide, rfl, inT4, Or.inr ⟨"DecoderForge", (mI 282 (by decide +kernel) rfl)⟩⟩
theorem fl_X6_50 : FL RX6 50 4 0 := ⟨RX4, TX4, 2, rfl, rfl, by decide, rfl, inT4, Or.inr ⟨"DecoderForge", (mI 276 (by decide +kernel) rfl)⟩⟩
theorem fl_X7_9 : FL RX7 9 7 2 := ⟨RX7, TX7, 4, rfl, rfl, by decide, rfl, inT7, Or.inl (mI 377 (by decide +kernel) rfl)⟩
theorem fl_X7_15 : FL RX7 15 7 3 := ⟨RX7, TX7, 4, rfl, rfl, by decide, rfl, inT7, Or.inl (mI 378 (by decide +kernel) rfl)⟩
theorem fl_X7_18 : FL RX7 18 7 0 := ⟨RX7, TX7, 4, rfl, rfl, by decide, rfl, inT7, Or.inl (mI 375 (by decide +kernel) rfl)⟩
theorem fl_X7_22 : FL RX7 22 7 1 := ⟨RX7, TX7, 4, rfl, rfl, by decide, rfl, inT7, Or.inl (mI 376 (by decide +kernel) rfl)⟩
theorem fl_X7_26 : FL RX7 26 4 1 := ⟨RX4, TX4, 2, rfl, rfl, by decide, rfl, inT4, Or.inr ⟨"DecoderForge", (mI 281 (by decide +kernel) rfl)⟩⟩
theorem fl_X7_35 : FL RX7 35 0 1 := ⟨RX0, TX0, 2, rfl, rfl, by decide, rfl, inT0, Or.inr ⟨"DecoderForge", (mI 154 (by decide +kernel) rfl)⟩⟩
theorem fl_X7_44 : FL RX7 44 4 0 := ⟨RX4, TX4, 2, rfl, rfl, by decide, rfl, inT4, Or.inr ⟨"DecoderForge", (mI 277 (by decide +kernel) rfl)⟩⟩
theorem fl_X7_73 : FL RX7 73 3 0 := ⟨RX3, TX3, 11, rfl, rfl, by decide, rfl, inT3, Or.inr ⟨"DecoderForge", (mI 225 (by decide +kernel) rfl)⟩⟩
theorem fl_X7_108 : FL RX7 108 3 4 := ⟨RX3, TX3, 11, rfl, rfl, by decide, rfl, inT3, Or.inr ⟨"DecoderForge", (mI 239 (by decide +kernel) rfl)⟩⟩
theorem fl_X7_112 : FL RX7 112 2 2 := ⟨RX2, TX2, 4, rfl, rfl, by decide, rfl, inT2, Or.inr ⟨"DecoderForge", (mI 210 (by decide +kernel) rfl)⟩⟩
theorem fl_X8_9 : FL RX8 9 8 1 := ⟨RX8, TX8, 11, rfl, rfl, by decide, rfl, inT8, Or.inl (mI 332 (by decide +kernel) rfl)⟩
theorem fl_X8_15 : FL RX8 15 8 2 := ⟨RX8, TX8, 11, rfl, rfl, by decide, rfl, inT8, Or.inl (mI 333 (by decide +kernel) rfl)⟩
theorem fl_X8_18 : FL RX8 18 8 3 := ⟨RX8, TX8, 11, rfl, rfl, by decide, rfl, inT8, Or.inl (mI 334 (by decide +kernel) rfl)⟩
theorem fl_X8_22 : FL RX8 22 8 4 := ⟨RX8, TX8, 11, rfl, rfl, by decide, rfl, inT8, Or.inl (mI 336 (by decide +kernel) rfl)⟩
theorem fl_X8_25 : FL RX8 25 8 5 := ⟨RX8, TX8, 11, rfl, rfl, by decide, rfl, inT8, Or.inl (mI 338 (by decide +kernel) rfl)⟩
theorem fl_X8_28 : FL RX8 28 8 6 := ⟨RX8, TX8, 11, rfl, rfl, by decide, rfl, inT8, Or.inl (mI 340 (by decide +kernel) rfl)⟩
theorem fl_X8_31 : FL RX8 31 8 7 := ⟨RX8, TX8, 11, rfl, rfl, by decide, rfl, inT8, Or.inl (mI 342 (by decide +kernel) rfl)⟩
theorem fl_X8_34 : FL RX8 34 8 8 := ⟨RX8, TX8, 11, rfl, rfl, by decide, rfl, inT8, Or.inl (mI 343 (by decide +kernel) rfl)⟩
theorem fl_X8_37 : FL RX8 37 8 9 := ⟨RX8, TX8, 11, rfl, rfl, by decide, rfl, inT8, Or.inl (mI 344 (by decide +kernel) rfl)⟩
theorem fl_X8_40 : FL RX8 40 8 10 := ⟨RX8, TX8, 11, rfl, rfl, by decide, rfl, inT8, Or.inl (mI 345 (by decide +kernel) rfl)⟩
theorem fl_X8_43 : FL RX8 43 8 0 := ⟨RX8, TX8, 11, rfl, rfl, by decide, rfl, inT8, Or.inl (mI 331 (by decide +kernel) rfl)⟩
theorem fl_X8_47 : FL RX8 47 4 1 := ⟨RX4, TX4, 2, rfl, rfl, by decide, rfl, inT4, Or.inr ⟨"DecoderForge", (mI 283 (by decide +kernel) rfl)⟩⟩
theorem fl_X8_52 : FL RX8 52 4 0 := ⟨RX4, TX4, 2, rfl, rfl, by decide, rfl, inT4, Or.inr ⟨"DecoderForge", (mI 275 (by decide +kernel) rfl)⟩⟩
theorem fl_X8_56 : FL RX8 56 3 3 := ⟨RX3, TX3, 11, rfl, rfl, by decide, rfl, inT3, Or.inr ⟨"DecoderForge", (mI 235 (by decide +kernel) rfl)⟩⟩
theorem fl_X8_61 : FL RX8 61 3 2 := ⟨RX3, TX3, 11, rfl, rfl, by decide, rfl, inT3, Or.inr ⟨"DecoderForge", (mI 232 (by decide +kernel) rfl)⟩⟩
theorem fl_X9_9 : FL RX9 9 9 3 := ⟨RX9, TX9, 9, rfl, rfl, by decide, rfl, inT9, Or.inl (mI 419 (by decide +kernel) rfl)⟩
theorem fl_X9_15 : FL RX9 15 9 4 := ⟨RX9, TX9, 9, rfl, rfl, by decide, rfl, inT9, Or.inl (mI 420 (by decide +kernel) rfl)⟩
theorem fl_X9_19 : FL RX9 19 9 5 := ⟨RX9, TX9, 9, rfl, rfl, by decide, rfl, inT9, Or.inl (mI 422 (by decide +kernel) rfl)⟩
theorem fl_X9_22 : FL RX9 22 9 6 := ⟨RX9, TX9, 9, rfl, rfl, by decide, rfl, inT9, Or.inl (mI 424 (by decide +kernel) rfl)⟩
theorem fl_X9_25 : FL RX9 25 9 7 := ⟨RX9, TX9, 9, rfl, rfl, by decide, rfl, inT9, Or.inl (mI 426 (by decide +kernel) rfl)⟩
theorem fl_X9_28 : FL RX9 28 9 8 := ⟨RX9, TX9, 9, rfl, rfl, by decide, rfl, inT9, Or.inl (mI 428 (by decide +kernel) rfl)⟩
theorem fl_X9_31 : FL RX9 31 9 0 := ⟨RX9, TX9, 9, rfl, rfl, by decide, rfl, inT9, Or.inl (mI 416 (by decide +kernel) rfl)⟩
theorem fl_X9_35 : FL RX9 35 9 1 := ⟨RX9, TX9, 9, rfl, rfl, by decide, rfl, inT9, Or.inl (mI 417 (by decide +kernel) rfl)⟩
theorem fl_X9_39 : FL RX9 39 9 2 := ⟨RX9, TX9, 9, rfl, rfl, by decide, rfl, inT9, Or.inl (mI 418 (by decide +kernel) rfl)⟩
theorem fl_X9_43 : FL RX9 43 1 0 := ⟨RX1, TX1, 4, rfl, rfl, by decide, rfl, inT1, Or.inr ⟨"DecoderForge", (mI 168 (by decide +kernel) rfl)⟩⟩
theorem fl_X9_60 : FL RX9 60 4 0 := ⟨RX4, TX4, 2, rfl, rfl, by decide, rfl, inT4, Or.inr ⟨"DecoderForge", (mI 278 (by decide +kernel) rfl)⟩⟩
theorem fl_X9_64 : FL RX9 64 3 0 := ⟨RX3, TX3, 11, rfl, rfl, by decide, rfl, inT3, Or.inr ⟨"DecoderForge", (mI 224 (by decide +kernel) rfl)⟩⟩
theorem fp_X0_9 : FP RX0 9 0 1 .int := ⟨RX0, TX0, 2, tyX0, rfl, rfl, by decide, rfl, inT0, Or.inl (mI 151 (by decide +kernel) rfl), tyX0_ok, nmX0, rfl, by decide +kernel⟩
theorem fp_X1_21 : FP RX1 21 1 3 .int := ⟨RX1, TX1, 4, tyX1, rfl, rfl, by decide, rfl, inT1, Or.inl (mI 174 (by decide +kernel) rfl), tyX1_ok, nmX1, rfl, by decide +kernel⟩
theorem fp_X10_25 : FP RX10 25 10 10 .int := ⟨RX10, TX10, 15, tyX10, rfl, rfl, by decide, rfl, inT10, Or.inl (mI 459 (by decide +kernel) rfl), tyX10_ok, nmX10, rfl, by decide +kernel⟩
theorem fp_X10_33 : FP RX10 33 10 12 .int := ⟨RX10, TX10, 15, tyX10, rfl, rfl, by decide, rfl, inT10, Or.inl (mI 461 (by decide +kernel) rfl), tyX10_ok, nmX10, rfl, by decide +kernel⟩
theorem fp_X10_36 : FP RX10 36 10 13 .int := ⟨RX10, TX10, 15, tyX10, rfl, rfl, by decide, rfl, inT10, Or.inl (mI 462 (by decide +kernel) rfl), tyX10_ok, nmX10, rfl, by decide +kernel⟩
theorem fp_X10_107 : FP RX10 107 0 1 .int := ⟨RX0, TX0, 2, tyX0, rfl, rfl, by decide, rfl, inT0, Or.inr ⟨"DecoderForge", (mI 152 (by decide +kernel) rfl)⟩, tyX0_ok, nmX0, rfl, by decide +kernel⟩
theorem fp_X10_120 : FP RX10 120 4 1 .int := ⟨RX4, TX4, 2, tyX4, rfl, rfl, by decide, rfl, inT4, Or.inr ⟨"DecoderForge", (mI 285 (by decide +kernel) rfl)⟩, tyX4_ok, nmX4, rfl, by decide +kernel⟩
theorem fp_X11_76 : FP RX11 76 11 8 .int := ⟨RX11, TX11, 38, tyX11, rfl, rfl, by decide, rfl, inT11, Or.inl (mI 1041 (by decide +kernel) rfl), tyX11_ok, nmX11, rfl, by decide +kernel⟩
theorem fp_X11_127 : FP RX11 127 11 11 .boolean := ⟨RX11, TX11, 38, tyX11, rfl, rfl, by decide, rfl, inT11, Or.inl (mI 1044 (by decide +kernel) rfl), tyX11_ok, nmX11, rfl, by decide +kernel⟩
theorem fp_X11_131 : FP RX11 131 11 18 .int := ⟨RX11, TX11, 38, tyX11, rfl, rfl, by decide, rfl, inT11, Or.inl (mI 1051 (by decide +kernel) rfl), tyX11_ok, nmX11, rfl, by decide +kernel⟩
theorem fp_X11_148 : FP RX11 148 11 13 .int := ⟨RX11, TX11, 38, tyX11, rfl, rfl, by decide, rfl, inT11, Or.inl (mI 1046 (by decide +kernel) rfl), tyX11_ok, nmX11, rfl, by decide +kernel⟩
theorem fp_X11_153 : FP RX11 153 11 28 .int := ⟨RX11, TX11, 38, tyX11, rfl, rfl, by decide, rfl, inT11, Or.inl (mI 1061 (by decide +kernel) rfl), tyX11_ok, nmX11, rfl, by decide +kernel⟩
theorem fp_X11_156 : FP RX11 156 11 30 .int := ⟨RX11, TX11, 38, tyX11, rfl, rfl, by decide, rfl, inT11, Or.inl (mI 1063 (by decide +kernel) rfl), tyX11_ok, nmX11, rfl, by decide +kernel⟩
theorem fp_X11_159 : FP RX11 159 11 27 .int := ⟨RX11, TX11, 38, tyX11, rfl, rfl, by decide, rfl, inT11, Or.inl (mI 1060 (by decide +kernel) rfl), tyX11_ok, nmX11, rfl, by decide +kernel⟩
theorem fp_X11_188 : FP RX11 188 11 29 .int := ⟨RX11, TX11, 38, tyX11, rfl, rfl, by decide, rfl, inT11, Or.inl (mI 1062 (by decide +kernel) rfl), tyX11_ok, nmX11, rfl, by decide +kernel⟩
theorem fp_X11_259 : FP RX11 259 11 32 .int := ⟨RX11, TX11, 38, tyX11, rfl, rfl, by decide, rfl, inT11, Or.inl (mI 1065 (by decide +kernel) rfl), tyX11_ok, nmX11, rfl, by decide +kernel⟩
theorem fp_X11_262 : FP RX11 262 11 33 .int := ⟨RX11, TX11, 38, tyX11, rfl, rfl, by decide, rfl, inT11, Or.inl (mI 1066 (by decide +kernel) rfl), tyX11_ok, nmX11, rfl, by decide +kernel⟩
theorem fp_X11_265 : FP RX11 265 11 31 .int := ⟨RX11, TX11, 38, tyX11, rfl, rfl, by decide, rfl, inT11, Or.inl (mI 1064 (by decide +kernel) rfl), tyX11_ok, nmX11, rfl, by decide +kernel⟩
theorem fp_X11_301 : FP RX11 301 11 15 .int := ⟨RX11, TX11, 38, tyX11, rfl, rfl, by decide, rfl, inT11, Or.inl (mI 1048 (by decide +kernel) rfl), tyX11_ok, nmX11, rfl, by decide +kernel⟩
theorem fp_X11_319 : FP RX11 319 11 36 .int := ⟨RX11, TX11, 38, tyX11, rfl, rfl, by decide, rfl, inT11, Or.inl (mI 1069 (by decide +kernel) rfl), tyX11_ok, nmX11, rfl, by decide +kernel⟩
theorem fp_X11_322 : FP RX11 322 11 37 .int := ⟨RX11, TX11, 38, tyX11, rfl, rfl, by decide, rfl, inT11, Or.inl (mI 1070 (by decide +kernel) rfl), tyX11_ok, nmX11, rfl, by decide +kernel⟩
theorem fp_X11_355 : FP RX11 355 11 25 .int := ⟨RX11, TX11, 38, tyX11, rfl, rfl, by decide, rfl, inT11, Or.inl (mI 1058 (by decide +kernel) rfl), tyX11_ok, nmX11, rfl, by decide +kernel⟩
theorem fp_X11_358 : FP RX11 358 11 26 .boolean := ⟨RX11, TX11, 38, tyX11, rfl, rfl, by decide, rfl, inT11, Or.inl (mI 1059 (by decide +kernel) rfl), tyX11_ok, nmX11, rfl, by decide +kernel⟩
theorem fp_X2_15 : FP RX2 15 2 2 .int := ⟨RX2, TX2, 4, tyX2, rfl, rfl, by decide, rfl, inT2, Or.inl (mI 208 (by decide +kernel) rfl), tyX2_ok, nmX2, rfl, by decide +kernel⟩
theorem fp_X2_19 : FP RX2 19 2 3 .int := ⟨RX2, TX2, 4, tyX2, rfl, rfl, by decide, rfl, inT2, Or.inl (mI 212 (by decide +kernel) rfl), tyX2_ok, nmX2, rfl, by decide +kernel⟩
theorem fp_X3_15 : FP RX3 15 3 1 .int := ⟨RX3, TX3, 11, tyX3, rfl, rfl, by decide, rfl, inT3, Or.inl (mI 227 (by decide +kernel) rfl), tyX3_ok, nmX3, rfl, by decide +kernel⟩
theorem fp_X3_18 : FP RX3 18 3 2 .int := ⟨RX3, TX3, 11, tyX3, rfl, rfl, by decide, rfl, inT3, Or.inl (mI 231 (by decide +kernel) rfl), tyX3_ok, nmX3, rfl, by decide +kernel⟩
theorem fp_X3_21 : FP RX3 21 3 3 .int := ⟨RX3, TX3, 11, tyX3, rfl, rfl, by decide, rfl, inT3, Or.inl (mI 234 (by decide +kernel) rfl), tyX3_ok, nmX3, rfl, by decide +kernel⟩
theorem fp_X3_34 : FP RX3 34 3 6 .int := ⟨RX3, TX3, 11, tyX3, rfl, rfl, by decide, rfl, inT3, Or.inl (mI 242 (by decide +kernel) rfl), tyX3_ok, nmX3, rfl, by decide +kernel⟩
theorem fp_X3_46 : FP RX3 46 3 10 .int := ⟨RX3, TX3, 11, tyX3, rfl, rfl, by decide, rfl, inT3, Or.inl (mI 248 (by decide +kernel) rfl), tyX3_ok, nmX3, rfl, by decide +kernel⟩
theorem fp_X5_9 : FP RX5 9 5 3 .int := ⟨RX5, TX5, 5, tyX5, rfl, rfl, by decide, rfl, inT5, Or.inl (mI 397 (by decide +kernel) rfl), tyX5_ok, nmX5, rfl, by decide +kernel⟩
theorem fp_X5_15 : FP RX5 15 5 4 .int := ⟨RX5, TX5, 5, tyX5, rfl, rfl, by decide, rfl, inT5, Or.inl (mI 398 (by decide +kernel) rfl), tyX5_ok, nmX5, rfl, by decide +kernel⟩
theorem fp_X6_18 : FP RX6 18 6 3 .boolean := ⟨RX6, TX6, 8, tyX6, rfl, rfl, by decide, rfl, inT6, Or.inl (mI 300 (by decide +kernel) rfl), tyX6_ok, nmX6, rfl, by decide +kernel⟩
theorem fp_X6_31 : FP RX6 31 6 7 .int := ⟨RX6, TX6, 8, tyX6, rfl, rfl, by decide, rfl, inT6, Or.inl (mI 306 (by decide +kernel) rfl), tyX6_ok, nmX6, rfl, by decide +kernel⟩
theorem fp_X7_9 : FP RX7 9 7 2 .int := ⟨RX7, TX7, 4, tyX7, rfl, rfl, by decide, rfl, inT7, Or.inl (mI 377 (by decide +kernel) rfl), tyX7_ok, nmX7, rfl, by decide +kernel⟩
theorem fp_X7_15 : FP RX7 15 7 3 .int := ⟨RX7, TX7, 4, tyX7, rfl, rfl, by decide, rfl, inT7, Or.inl (mI 378 (by decide +kernel) rfl), tyX7_ok, nmX7, rfl, by decide +kernel⟩
theorem fp_X7_26 : FP RX7 26 4 1 .int := ⟨RX4, TX4, 2, tyX4, rfl, rfl, by decide, rfl, inT4, Or.inr ⟨"DecoderForge", (mI 281 (by decide +kernel) rfl)⟩, tyX4_ok, nmX4, rfl, by decide +kernel⟩
theorem fp_X7_73 : FP RX7 73 3 0 .int := ⟨RX3, TX3, 11, tyX3, rfl, rfl, by decide, rfl, inT3, Or.inr ⟨"DecoderForge", (mI 225 (by decide +kernel) rfl)⟩, tyX3_ok, nmX3, rfl, by decide +kernel⟩
theorem fp_X7_86 : FP RX7 86 3 1 .int := ⟨RX3, TX3, 11, tyX3, rfl, rfl, by decide, rfl, inT3, Or.inr ⟨"DecoderForge", (mI 230 (by decide +kernel) rfl)⟩, tyX3_ok, nmX3, rfl, by decide +kernel⟩
theorem fp_X8_18 : FP RX8 18 8 3 .int := ⟨RX8, TX8, 11, tyX8, rfl, rfl, by decide, rfl, inT8, Or.inl (mI 334 (by decide +kernel) rfl), tyX8_ok, nmX8, rfl, by decide +kernel⟩
theorem fp_X8_22 : FP RX8 22 8 4 .int := ⟨RX8, TX8, 11, tyX8, rfl, rfl, by decide, rfl, inT8, Or.inl (mI 336 (by decide +kernel) rfl), tyX8_ok, nmX8, rfl, by decide +kernel⟩
theorem fp_X8_25 : FP RX8 25 8 5 .int := ⟨RX8, TX8, 11, tyX8, rfl, rfl, by decide, rfl, inT8, Or.inl (mI 338 (by decide +kernel) rfl), tyX8_ok, nmX8, rfl, by decide +kernel⟩
theorem fp_X8_28 : FP RX8 28 8 6 .int := ⟨RX8, TX8, 11, tyX8, rfl, rfl, by decide, rfl, inT8, Or.inl (mI 340 (by decide +kernel) rfl), tyX8_ok, nmX8, rfl, by decide +kernel⟩
theorem fp_X9_15 : FP RX9 15 9 4 .int := ⟨RX9, TX9, 9, tyX9, rfl, rfl, by decide, rfl, inT9, Or.inl (mI 420 (by decide +kernel) rfl), tyX9_ok, nmX9, rfl, by decide +kernel⟩
theorem fp_X9_19 : FP RX9 19 9 5 .int := ⟨RX9, TX9, 9, tyX9, rfl, rfl, by decide, rfl, inT9, Or.inl (mI 422 (by decide +kernel) rfl), tyX9_ok, nmX9, rfl, by decide +kernel⟩
theorem fp_X9_22 : FP RX9 22 9 6 .int := ⟨RX9, TX9, 9, tyX9, rfl, rfl, by decide, rfl, inT9, Or.inl (mI 424 (by decide +kernel) rfl), tyX9_ok, nmX9, rfl, by decide +kernel⟩
theorem fp_X9_25 : FP RX9 25 9 7 .int := ⟨RX9, TX9, 9, tyX9, rfl, rfl, by decide, rfl, inT9, Or.inl (mI 426 (by decide +kernel) rfl), tyX9_ok, nmX9, rfl, by decide +kernel⟩
theorem fp_X9_28 : FP RX9 28 9 8 .int := ⟨RX9, TX9, 9, tyX9, rfl, rfl, by decide, rfl, inT9, Or.inl (mI 428 (by decide +kernel) rfl), tyX9_ok, nmX9, rfl, by decide +kernel⟩
theorem sl_X10_344 : SL RX10 344 0 := ⟨by decide, Or.inl (mI 641 (by decide +kernel) rfl)⟩
theorem sl_X10_347 : SL RX10 347 1 := ⟨by decide, Or.inl (mI 545 (by decide +kernel) rfl)⟩
theorem sl_X11_84 : SL RX11 84 3 := ⟨by decide, Or.inl (mI 1201 (by decide +kernel) rfl)⟩
theorem sl_X11_185 : SL RX11 185 4 := ⟨by decide, Or.inl (mI 1173 (by decide +kernel) rfl)⟩
theorem sl_X11_226 : SL RX11 226 5 := ⟨by decide, Or.inl (mI 1281 (by decide +kernel) rfl)⟩
theorem sl_X8_98 : SL RX8 98 2 := ⟨by decide, Or.inr ⟨"DecoderForge", (mI 790 (by decide +kernel) rfl)⟩⟩
theorem cp_X1_25 : CP RX1 25 := ⟨(mI 848 (by decide +kernel) rfl), (mI 850 (by decide +kernel) rfl), (mI 849 (by decide +kernel) rfl), (mI 135 (by decide +kernel) rfl)⟩
theorem cp_X10_285 : CP RX10 285 := ⟨(mI 932 (by decide +kernel) rfl), (mI 850 (by decide +kernel) rfl), (mI 849 (by decide +kernel) rfl), (mI 135 (by decide +kernel) rfl)⟩
theorem cp_X9_87 : CP RX9 87 := ⟨(mI 972 (by decide +kernel) rfl), (mI 850 (by decide +kernel) rfl), (mI 849 (by decide +kernel) rfl), (mI 135 (by decide +kernel) rfl)⟩
theorem mm_X3_87 : MM RX3 87 Lib.Math.abs.name Lib.Math.abs.code 1 := ⟨(mI 960 (by decide +kernel) rfl), (mI 961 (by decide +kernel) rfl), (mI 134 (by decide +kernel) rfl), (mI 962 (by decide +kernel) rfl)⟩
theorem mm_X8_79 : MM RX8 79 Lib.Math.max.name Lib.Math.max.code 2 := ⟨(mI 772 (by decide +kernel) rfl), (mI 773 (by decide +kernel) rfl), (mI 134 (by decide +kernel) rfl), (mI 774 (by decide +kernel) rfl)⟩
theorem cm_X0_19 : CMV RX0 19 yX0_add cX0_add 2 none 1 := ⟨⟨Or.inl (mI 873 (by decide +kernel) rfl), (mI 121 (by decide +kernel) rfl), (mI 509 (by decide +kernel) rfl), by decide, by decide, by decide +kernel⟩, (mI 508 (by decide +kernel) rfl), (mI 1 (by decide +kernel) rfl)⟩
theorem cm_X1_31 : CMV RX1 31 yX1_hasMet cX1_hasMet 3 (some .boolean) 1 := ⟨⟨Or.inl (mI 989 (by decide +kernel) rfl), (mI 122 (by decide +kernel) rfl), (mI 992 (by decide +kernel) rfl), by decide, by decide, by decide +kernel⟩, (mI 991 (by decide +kernel) rfl), (mI 68 (by decide +kernel) rfl)⟩
theorem cm_X10_99 : CMS RX10 99 yX10_within cX10_within 3 (some .boolean) 3 := ⟨⟨Or.inl (mI 499 (by decide +kernel) rfl), (mI 120 (by decide +kernel) rfl), (mI 501 (by decide +kernel) rfl), by decide, by decide, by decide +kernel⟩, (mI 500 (by decide +kernel) rfl)⟩
theorem cm_X10_103 : CMV RX10 103 yX10_refuse cX10_refuse 3 (some .int) 1 := ⟨⟨Or.inl (mI 502 (by decide +kernel) rfl), (mI 120 (by decide +kernel) rfl), (mI 505 (by decide +kernel) rfl), by decide, by decide, by decide +kernel⟩, (mI 504 (by decide +kernel) rfl), (mI 0 (by decide +kernel) rfl)⟩
theorem cm_X10_110 : CMV RX10 110 yX0_add cX0_add 2 none 1 := ⟨⟨Or.inr ⟨"DecoderForge", (mI 506 (by decide +kernel) rfl)⟩, (mI 121 (by decide +kernel) rfl), (mI 509 (by decide +kernel) rfl), by decide, by decide, by decide +kernel⟩, (mI 508 (by decide +kernel) rfl), (mI 1 (by decide +kernel) rfl)⟩
theorem cm_X10_113 : CMV RX10 113 yX7_fault cX7_fault 2 (some .int) 0 := ⟨⟨Or.inr ⟨"DecoderForge", (mI 518 (by decide +kernel) rfl)⟩, (mI 128 (by decide +kernel) rfl), (mI 521 (by decide +kernel) rfl), by decide, by decide, by decide +kernel⟩, (mI 520 (by decide +kernel) rfl), (mI 2 (by decide +kernel) rfl)⟩
theorem cm_X10_117 : CMV RX10 117 yX6_forget cX6_forget 3 none 0 := ⟨⟨Or.inr ⟨"DecoderForge", (mI 602 (by decide +kernel) rfl)⟩, (mI 126 (by decide +kernel) rfl), (mI 605 (by decide +kernel) rfl), by decide, by decide, by decide +kernel⟩, (mI 604 (by decide +kernel) rfl), (mI 19 (by decide +kernel) rfl)⟩
theorem cm_X10_123 : CMV RX10 123 yX4_has cX4_has 2 (some .boolean) 1 := ⟨⟨Or.inr ⟨"DecoderForge", (mI 617 (by decide +kernel) rfl)⟩, (mI 123 (by decide +kernel) rfl), (mI 620 (by decide +kernel) rfl), by decide, by decide, by decide +kernel⟩, (mI 619 (by decide +kernel) rfl), (mI 21 (by decide +kernel) rfl)⟩
theorem cm_X10_151 : CMS RX10 151 yX10_lettersIn cX10_lettersIn 1 (some .int) 1 := ⟨⟨Or.inl (mI 621 (by decide +kernel) rfl), (mI 120 (by decide +kernel) rfl), (mI 623 (by decide +kernel) rfl), by decide, by decide, by decide +kernel⟩, (mI 622 (by decide +kernel) rfl)⟩
theorem cm_X10_154 : CMS RX10 154 yX10_withLetter cX10_withLetter 2 (some .int) 2 := ⟨⟨Or.inl (mI 629 (by decide +kernel) rfl), (mI 120 (by decide +kernel) rfl), (mI 631 (by decide +kernel) rfl), by decide, by decide, by decide +kernel⟩, (mI 630 (by decide +kernel) rfl)⟩
theorem cm_X10_158 : CMV RX10 158 yX4_find cX4_find 4 (some .int) 2 := ⟨⟨Or.inr ⟨"DecoderForge", (mI 633 (by decide +kernel) rfl)⟩, (mI 123 (by decide +kernel) rfl), (mI 558 (by decide +kernel) rfl), by decide, by decide, by decide +kernel⟩, (mI 557 (by decide +kernel) rfl), (mI 9 (by decide +kernel) rfl)⟩
theorem cm_X10_161 : CMS RX10 161 yX10_isUnder cX10_isUnder 4 (some .boolean) 2 := ⟨⟨Or.inl (mI 638 (by decide +kernel) rfl), (mI 120 (by decide +kernel) rfl), (mI 640 (by decide +kernel) rfl), by decide, by decide, by decide +kernel⟩, (mI 639 (by decide +kernel) rfl)⟩
theorem cm_X10_165 : CMS RX10 165 yX10_isWord cX10_isWord 1 (some .boolean) 1 := ⟨⟨Or.inl (mI 647 (by decide +kernel) rfl), (mI 120 (by decide +kernel) rfl), (mI 649 (by decide +kernel) rfl), by decide, by decide, by decide +kernel⟩, (mI 648 (by decide +kernel) rfl)⟩
theorem cm_X10_168 : CMV RX10 168 yX6_meaningOf cX6_meaningOf 2 (some .int) 1 := ⟨⟨Or.inr ⟨"DecoderForge", (mI 650 (by decide +kernel) rfl)⟩, (mI 126 (by decide +kernel) rfl), (mI 653 (by decide +kernel) rfl), by decide, by decide, by decide +kernel⟩, (mI 652 (by decide +kernel) rfl), (mI 22 (by decide +kernel) rfl)⟩
theorem cm_X10_171 : CMV RX10 171 yX6_fittingOf cX6_fittingOf 2 (some .int) 1 := ⟨⟨Or.inr ⟨"DecoderForge", (mI 678 (by decide +kernel) rfl)⟩, (mI 126 (by decide +kernel) rfl), (mI 681 (by decide +kernel) rfl), by decide, by decide, by decide +kernel⟩, (mI 680 (by decide +kernel) rfl), (mI 28 (by decide +kernel) rfl)⟩
theorem cm_X10_174 : CMV RX10 174 yX3_isOver cX3_isOver 3 (some .boolean) 1 := ⟨⟨Or.inr ⟨"DecoderForge", (mI 686 (by decide +kernel) rfl)⟩, (mI 124 (by decide +kernel) rfl), (mI 612 (by decide +kernel) rfl), by decide, by decide, by decide +kernel⟩, (mI 611 (by decide +kernel) rfl), (mI 20 (by decide +kernel) rfl)⟩
theorem cm_X10_178 : CMV RX10 178 yX10_isMeaning cX10_isMeaning 2 (some .boolean) 1 := ⟨⟨Or.inl (mI 691 (by decide +kernel) rfl), (mI 120 (by decide +kernel) rfl), (mI 694 (by decide +kernel) rfl), by decide, by decide, by decide +kernel⟩, (mI 693 (by decide +kernel) rfl), (mI 29 (by decide +kernel) rfl)⟩
theorem cm_X10_181 : CMV RX10 181 yX6_goThrough cX6_goThrough 3 none 0 := ⟨⟨Or.inr ⟨"DecoderForge", (mI 695 (by decide +kernel) rfl)⟩, (mI 126 (by decide +kernel) rfl), (mI 698 (by decide +kernel) rfl), by decide, by decide, by decide +kernel⟩, (mI 697 (by decide +kernel) rfl), (mI 30 (by decide +kernel) rfl)⟩
theorem cm_X10_187 : CMV RX10 187 yX6_clashingPair cX6_clashingPair 6 (some .int) 1 := ⟨⟨Or.inr ⟨"DecoderForge", (mI 718 (by decide +kernel) rfl)⟩, (mI 126 (by decide +kernel) rfl), (mI 721 (by decide +kernel) rfl), by decide, by decide, by decide +kernel⟩, (mI 720 (by decide +kernel) rfl), (mI 32 (by decide +kernel) rfl)⟩
theorem cm_X10_193 : CMV RX10 193 yX4_twins cX4_twins 4 (some .int) 0 := ⟨⟨Or.inr ⟨"DecoderForge", (mI 726 (by decide +kernel) rfl)⟩, (mI 123 (by decide +kernel) rfl), (mI 729 (by decide +kernel) rfl), by decide, by decide, by decide +kernel⟩, (mI 728 (by decide +kernel) rfl), (mI 33 (by decide +kernel) rfl)⟩
theorem cm_X10_196 : CMV RX10 196 yX6_deadForms cX6_deadForms 3 (some .int) 0 := ⟨⟨Or.inr ⟨"DecoderForge", (mI 734 (by decide +kernel) rfl)⟩, (mI 126 (by decide +kernel) rfl), (mI 737 (by decide +kernel) rfl), by decide, by decide, by decide +kernel⟩, (mI 736 (by decide +kernel) rfl), (mI 35 (by decide +kernel) rfl)⟩
theorem cm_X10_202 : CMS RX10 202 yX10_isTreeSet cX10_isTreeSet 1 (some .boolean) 1 := ⟨⟨Or.inl (mI 742 (by decide +kernel) rfl), (mI 120 (by decide +kernel) rfl), (mI 744 (by decide +kernel) rfl), by decide, by decide, by decide +kernel⟩, (mI 743 (by decide +kernel) rfl)⟩
theorem cm_X10_205 : CMV RX10 205 yX8_growGreedy cX8_growGreedy 2 none 1 := ⟨⟨Or.inr ⟨"DecoderForge", (mI 751 (by decide +kernel) rfl)⟩, (mI 127 (by decide +kernel) rfl), (mI 754 (by decide +kernel) rfl), by decide, by decide, by decide +kernel⟩, (mI 753 (by decide +kernel) rfl), (mI 36 (by decide +kernel) rfl)⟩
theorem cm_X10_220 : CMV RX10 220 yX8_growLeast cX8_growLeast 4 none 1 := ⟨⟨Or.inr ⟨"DecoderForge", (mI 782 (by decide +kernel) rfl)⟩, (mI 127 (by decide +kernel) rfl), (mI 785 (by decide +kernel) rfl), by decide, by decide, by decide +kernel⟩, (mI 784 (by decide +kernel) rfl), (mI 41 (by decide +kernel) rfl)⟩
theorem cm_X10_223 : CMV RX10 223 yX8_candidatesFor cX8_candidatesFor 7 (some .int) 2 := ⟨⟨Or.inr ⟨"DecoderForge", (mI 800 (by decide +kernel) rfl)⟩, (mI 127 (by decide +kernel) rfl), (mI 803 (by decide +kernel) rfl), by decide, by decide, by decide +kernel⟩, (mI 802 (by decide +kernel) rfl), (mI 44 (by decide +kernel) rfl)⟩
theorem cm_X10_226 : CMS RX10 226 yX10_isLetter cX10_isLetter 1 (some .boolean) 1 := ⟨⟨Or.inl (mI 808 (by decide +kernel) rfl), (mI 120 (by decide +kernel) rfl), (mI 810 (by decide +kernel) rfl), by decide, by decide, by decide +kernel⟩, (mI 809 (by decide +kernel) rfl)⟩
theorem cm_X10_241 : CMV RX10 241 yX3_placeOf cX3_placeOf 3 (some .int) 1 := ⟨⟨Or.inr ⟨"DecoderForge", (mI 811 (by decide +kernel) rfl)⟩, (mI 124 (by decide +kernel) rfl), (mI 814 (by decide +kernel) rfl), by decide, by decide, by decide +kernel⟩, (mI 813 (by decide +kernel) rfl), (mI 45 (by decide +kernel) rfl)⟩
theorem cm_X10_244 : CMV RX10 244 yX10_hasField cX10_hasField 3 (some .boolean) 2 := ⟨⟨Or.inl (mI 819 (by decide +kernel) rfl), (mI 120 (by decide +kernel) rfl), (mI 822 (by decide +kernel) rfl), by decide, by decide, by decide +kernel⟩, (mI 821 (by decide +kernel) rfl), (mI 46 (by decide +kernel) rfl)⟩
theorem cm_X10_247 : CMV RX10 247 yX2_numberIn cX2_numberIn 4 (some .int) 1 := ⟨⟨Or.inr ⟨"DecoderForge", (mI 823 (by decide +kernel) rfl)⟩, (mI 125 (by decide +kernel) rfl), (mI 669 (by decide +kernel) rfl), by decide, by decide, by decide +kernel⟩, (mI 668 (by decide +kernel) rfl), (mI 26 (by decide +kernel) rfl)⟩
theorem cm_X10_250 : CMV RX10 250 yX2_canHold cX2_canHold 3 (some .boolean) 1 := ⟨⟨Or.inr ⟨"DecoderForge", (mI 828 (by decide +kernel) rfl)⟩, (mI 125 (by decide +kernel) rfl), (mI 831 (by decide +kernel) rfl), by decide, by decide, by decide +kernel⟩, (mI 830 (by decide +kernel) rfl), (mI 47 (by decide +kernel) rfl)⟩
theorem cm_X10_253 : CMV RX10 253 yX2_putInto cX2_putInto 5 (some .int) 2 := ⟨⟨Or.inr ⟨"DecoderForge", (mI 832 (by decide +kernel) rfl)⟩, (mI 125 (by decide +kernel) rfl), (mI 835 (by decide +kernel) rfl), by decide, by decide, by decide +kernel⟩, (mI 834 (by decide +kernel) rfl), (mI 48 (by decide +kernel) rfl)⟩
theorem cm_X10_256 : CMV RX10 256 yX10_remember cX10_remember 1 none 0 := ⟨⟨Or.inl (mI 840 (by decide +kernel) rfl), (mI 120 (by decide +kernel) rfl), (mI 843 (by decide +kernel) rfl), by decide, by decide, by decide +kernel⟩, (mI 842 (by decide +kernel) rfl), (mI 49 (by decide +kernel) rfl)⟩
theorem cm_X10_262 : CMV RX10 262 yX3_madeOf cX3_madeOf 6 (some .int) 1 := ⟨⟨Or.inr ⟨"DecoderForge", (mI 855 (by decide +kernel) rfl)⟩, (mI 124 (by decide +kernel) rfl), (mI 858 (by decide +kernel) rfl), by decide, by decide, by decide +kernel⟩, (mI 857 (by decide +kernel) rfl), (mI 51 (by decide +kernel) rfl)⟩
theorem cm_X10_266 : CMV RX10 266 yX10_writeForm cX10_writeForm 4 none 2 := ⟨⟨Or.inl (mI 865 (by decide +kernel) rfl), (mI 120 (by decide +kernel) rfl), (mI 868 (by decide +kernel) rfl), by decide, by decide, by decide +kernel⟩, (mI 867 (by decide +kernel) rfl), (mI 52 (by decide +kernel) rfl)⟩
theorem cm_X10_270 : CMV RX10 270 yX0_addNumber cX0_addNumber 4 none 1 := ⟨⟨Or.inr ⟨"DecoderForge", (mI 878 (by decide +kernel) rfl)⟩, (mI 121 (by decide +kernel) rfl), (mI 881 (by decide +kernel) rfl), by decide, by decide, by decide +kernel⟩, (mI 880 (by decide +kernel) rfl), (mI 55 (by decide +kernel) rfl)⟩
theorem cm_X10_273 : CMV RX10 273 yX0_at cX0_at 2 (some .int) 1 := ⟨⟨Or.inr ⟨"DecoderForge", (mI 886 (by decide +kernel) rfl)⟩, (mI 121 (by decide +kernel) rfl), (mI 541 (by decide +kernel) rfl), by decide, by decide, by decide +kernel⟩, (mI 540 (by decide +kernel) rfl), (mI 7 (by decide +kernel) rfl)⟩
theorem cm_X10_276 : CMV RX10 276 yX5_wordOrFault cX5_wordOrFault 2 (some .int) 0 := ⟨⟨Or.inr ⟨"DecoderForge", (mI 891 (by decide +kernel) rfl)⟩, (mI 129 (by decide +kernel) rfl), (mI 894 (by decide +kernel) rfl), by decide, by decide, by decide +kernel⟩, (mI 893 (by decide +kernel) rfl), (mI 56 (by decide +kernel) rfl)⟩
theorem cm_X10_279 : CMS RX10 279 yX10_isCell cX10_isCell 1 (some .boolean) 1 := ⟨⟨Or.inl (mI 921 (by decide +kernel) rfl), (mI 120 (by decide +kernel) rfl), (mI 923 (by decide +kernel) rfl), by decide, by decide, by decide +kernel⟩, (mI 922 (by decide +kernel) rfl)⟩
theorem cm_X10_291 : CMV RX10 291 yX9_startAt cX9_startAt 2 none 1 := ⟨⟨Or.inr ⟨"DecoderForge", (mI 941 (by decide +kernel) rfl)⟩, (mI 130 (by decide +kernel) rfl), (mI 944 (by decide +kernel) rfl), by decide, by decide, by decide +kernel⟩, (mI 943 (by decide +kernel) rfl), (mI 60 (by decide +kernel) rfl)⟩
theorem cm_X10_294 : CMV RX10 294 yX9_stepOn cX9_stepOn 4 (some .boolean) 0 := ⟨⟨Or.inr ⟨"DecoderForge", (mI 945 (by decide +kernel) rfl)⟩, (mI 130 (by decide +kernel) rfl), (mI 948 (by decide +kernel) rfl), by decide, by decide, by decide +kernel⟩, (mI 947 (by decide +kernel) rfl), (mI 61 (by decide +kernel) rfl)⟩
theorem cm_X10_313 : CMV RX10 313 yX1_meet cX1_meet 2 none 1 := ⟨⟨Or.inr ⟨"DecoderForge", (mI 985 (by decide +kernel) rfl)⟩, (mI 122 (by decide +kernel) rfl), (mI 988 (by decide +kernel) rfl), by decide, by decide, by decide +kernel⟩, (mI 987 (by decide +kernel) rfl), (mI 67 (by decide +kernel) rfl)⟩
theorem cm_X10_319 : CMV RX10 319 yX1_hasMet cX1_hasMet 3 (some .boolean) 1 := ⟨⟨Or.inr ⟨"DecoderForge", (mI 997 (by decide +kernel) rfl)⟩, (mI 122 (by decide +kernel) rfl), (mI 992 (by decide +kernel) rfl), by decide, by decide, by decide +kernel⟩, (mI 991 (by decide +kernel) rfl), (mI 68 (by decide +kernel) rfl)⟩
theorem cm_X10_325 : CMV RX10 325 yX3_costOf cX3_costOf 4 (some .int) 1 := ⟨⟨Or.inr ⟨"DecoderForge", (mI 1006 (by decide +kernel) rfl)⟩, (mI 124 (by decide +kernel) rfl), (mI 954 (by decide +kernel) rfl), by decide, by decide, by decide +kernel⟩, (mI 953 (by decide +kernel) rfl), (mI 62 (by decide +kernel) rfl)⟩
theorem cm_X10_328 : CMV RX10 328 yX1_become cX1_become 2 none 1 := ⟨⟨Or.inr ⟨"DecoderForge", (mI 844 (by decide +kernel) rfl)⟩, (mI 122 (by decide +kernel) rfl), (mI 847 (by decide +kernel) rfl), by decide, by decide, by decide +kernel⟩, (mI 846 (by decide +kernel) rfl), (mI 50 (by decide +kernel) rfl)⟩
theorem cm_X10_332 : CMV RX10 332 yX0_addName cX0_addName 4 none 1 := ⟨⟨Or.inr ⟨"DecoderForge", (mI 869 (by decide +kernel) rfl)⟩, (mI 121 (by decide +kernel) rfl), (mI 872 (by decide +kernel) rfl), by decide, by decide, by decide +kernel⟩, (mI 871 (by decide +kernel) rfl), (mI 53 (by decide +kernel) rfl)⟩
theorem cm_X10_335 : CMV RX10 335 yX3_fieldAt cX3_fieldAt 2 (some (.object "DecoderForge$Field")) 1 := ⟨⟨Or.inr ⟨"DecoderForge", (mI 874 (by decide +kernel) rfl)⟩, (mI 124 (by decide +kernel) rfl), (mI 877 (by decide +kernel) rfl), by decide, by decide, by decide +kernel⟩, (mI 876 (by decide +kernel) rfl), (mI 54 (by decide +kernel) rfl)⟩
theorem cm_X10_339 : CMS RX10 339 yJ6_bitCount_0f7a4 cJ6_bitCount_0f7a4 1 (some .int) 1 := ⟨⟨Or.inl (mI 745 (by decide +kernel) rfl), (mI 133 (by decide +kernel) rfl), (mI 747 (by decide +kernel) rfl), by decide, by decide, by decide +kernel⟩, (mI 746 (by decide +kernel) rfl)⟩
theorem cm_X10_351 : CMS RX10 351 yX10_withSign cX10_withSign 2 (some .int) 2 := ⟨⟨Or.inl (mI 632 (by decide +kernel) rfl), (mI 120 (by decide +kernel) rfl), (mI 554 (by decide +kernel) rfl), by decide, by decide, by decide +kernel⟩, (mI 553 (by decide +kernel) rfl)⟩
theorem cm_X11_80 : CMV RX11 80 yX11_signAt cX11_signAt 3 (some .int) 2 := ⟨⟨Or.inl (mI 1207 (by decide +kernel) rfl), (mI 131 (by decide +kernel) rfl), (mI 1210 (by decide +kernel) rfl), by decide, by decide, by decide +kernel⟩, (mI 1209 (by decide +kernel) rfl), (mI 77 (by decide +kernel) rfl)⟩
theorem cm_X11_89 : CMS RX11 89 yX11_isIn cX11_isIn 6 (some .boolean) 3 := ⟨⟨Or.inl (mI 1153 (by decide +kernel) rfl), (mI 131 (by decide +kernel) rfl), (mI 1155 (by decide +kernel) rfl), by decide, by decide, by decide +kernel⟩, (mI 1154 (by decide +kernel) rfl)⟩
theorem cm_X11_93 : CMV RX11 93 yX11_bitsOf cX11_bitsOf 5 (some .int) 2 := ⟨⟨Or.inl (mI 1203 (by decide +kernel) rfl), (mI 131 (by decide +kernel) rfl), (mI 1206 (by decide +kernel) rfl), by decide, by decide, by decide +kernel⟩, (mI 1205 (by decide +kernel) rfl), (mI 76 (by decide +kernel) rfl)⟩
theorem cm_X11_96 : CMS RX11 96 yX11_letterOf cX11_letterOf 3 (some .int) 1 := ⟨⟨Or.inl (mI 1198 (by decide +kernel) rfl), (mI 131 (by decide +kernel) rfl), (mI 1200 (by decide +kernel) rfl), by decide, by decide, by decide +kernel⟩, (mI 1199 (by decide +kernel) rfl)⟩
theorem cm_X11_100 : CMS RX11 100 yX11_has cX11_has 2 (some .boolean) 2 := ⟨⟨Or.inl (mI 1314 (by decide +kernel) rfl), (mI 131 (by decide +kernel) rfl), (mI 1316 (by decide +kernel) rfl), by decide, by decide, by decide +kernel⟩, (mI 1315 (by decide +kernel) rfl)⟩
theorem cm_X11_104 : CMS RX11 104 yX11_size cX11_size 3 (some .int) 1 := ⟨⟨Or.inl (mI 1211 (by decide +kernel) rfl), (mI 131 (by decide +kernel) rfl), (mI 1213 (by decide +kernel) rfl), by decide, by decide, by decide +kernel⟩, (mI 1212 (by decide +kernel) rfl)⟩
theorem cm_X11_107 : CMV RX11 107 yX11_stands cX11_stands 7 (some .int) 3 := ⟨⟨Or.inl (mI 1310 (by decide +kernel) rfl), (mI 131 (by decide +kernel) rfl), (mI 1313 (by decide +kernel) rfl), by decide, by decide, by decide +kernel⟩, (mI 1312 (by decide +kernel) rfl), (mI 95 (by decide +kernel) rfl)⟩
theorem cm_X11_111 : CMV RX11 111 yX11_maskOf cX11_maskOf 2 (some .int) 1 := ⟨⟨Or.inl (mI 1250 (by decide +kernel) rfl), (mI 131 (by decide +kernel) rfl), (mI 1253 (by decide +kernel) rfl), by decide, by decide, by decide +kernel⟩, (mI 1252 (by decide +kernel) rfl), (mI 85 (by decide +kernel) rfl)⟩
theorem cm_X11_114 : CMV RX11 114 yX11_valueOf cX11_valueOf 2 (some .int) 1 := ⟨⟨Or.inl (mI 1254 (by decide +kernel) rfl), (mI 131 (by decide +kernel) rfl), (mI 1257 (by decide +kernel) rfl), by decide, by decide, by decide +kernel⟩, (mI 1256 (by decide +kernel) rfl), (mI 86 (by decide +kernel) rfl)⟩
theorem cm_X11_117 : CMV RX11 117 yX11_ruleHolds cX11_ruleHolds 6 (some .boolean) 3 := ⟨⟨Or.inl (mI 1306 (by decide +kernel) rfl), (mI 131 (by decide +kernel) rfl), (mI 1309 (by decide +kernel) rfl), by decide, by decide, by decide +kernel⟩, (mI 1308 (by decide +kernel) rfl), (mI 94 (by decide +kernel) rfl)⟩
theorem cm_X11_121 : CMV RX11 121 yX11_fixedIn cX11_fixedIn 4 (some .int) 1 := ⟨⟨Or.inl (mI 1233 (by decide +kernel) rfl), (mI 131 (by decide +kernel) rfl), (mI 1236 (by decide +kernel) rfl), by decide, by decide, by decide +kernel⟩, (mI 1235 (by decide +kernel) rfl), (mI 82 (by decide +kernel) rfl)⟩
theorem cm_X11_124 : CMV RX11 124 yX11_onesIn cX11_onesIn 4 (some .int) 1 := ⟨⟨Or.inl (mI 1237 (by decide +kernel) rfl), (mI 131 (by decide +kernel) rfl), (mI 1240 (by decide +kernel) rfl), by decide, by decide, by decide +kernel⟩, (mI 1239 (by decide +kernel) rfl), (mI 83 (by decide +kernel) rfl)⟩
theorem cm_X11_134 : CMV RX11 134 yX11_isOver cX11_isOver 5 (some .boolean) 2 := ⟨⟨Or.inl (mI 1298 (by decide +kernel) rfl), (mI 131 (by decide +kernel) rfl), (mI 1301 (by decide +kernel) rfl), by decide, by decide, by decide +kernel⟩, (mI 1300 (by decide +kernel) rfl), (mI 92 (by decide +kernel) rfl)⟩
theorem cm_X11_137 : CMV RX11 137 yX11_fitsWord cX11_fitsWord 5 (some .boolean) 2 := ⟨⟨Or.inl (mI 1302 (by decide +kernel) rfl), (mI 131 (by decide +kernel) rfl), (mI 1305 (by decide +kernel) rfl), by decide, by decide, by decide +kernel⟩, (mI 1304 (by decide +kernel) rfl), (mI 93 (by decide +kernel) rfl)⟩
theorem cm_X11_140 : CMV RX11 140 yX11_looks cX11_looks 6 none 0 := ⟨⟨Or.inl (mI 1294 (by decide +kernel) rfl), (mI 131 (by decide +kernel) rfl), (mI 1297 (by decide +kernel) rfl), by decide, by decide, by decide +kernel⟩, (mI 1296 (by decide +kernel) rfl), (mI 91 (by decide +kernel) rfl)⟩
theorem cm_X11_145 : CMV RX11 145 yX11_refuse cX11_refuse 2 (some .int) 1 := ⟨⟨Or.inl (mI 1156 (by decide +kernel) rfl), (mI 131 (by decide +kernel) rfl), (mI 1159 (by decide +kernel) rfl), by decide, by decide, by decide +kernel⟩, (mI 1158 (by decide +kernel) rfl), (mI 69 (by decide +kernel) rfl)⟩
theorem cm_X11_162 : CMV RX11 162 yX11_byteAt cX11_byteAt 2 (some .int) 1 := ⟨⟨Or.inl (mI 1175 (by decide +kernel) rfl), (mI 131 (by decide +kernel) rfl), (mI 1178 (by decide +kernel) rfl), by decide, by decide, by decide +kernel⟩, (mI 1177 (by decide +kernel) rfl), (mI 71 (by decide +kernel) rfl)⟩
theorem cm_X11_165 : CMS RX11 165 yX11_isLetter cX11_isLetter 1 (some .boolean) 1 := ⟨⟨Or.inl (mI 1187 (by decide +kernel) rfl), (mI 131 (by decide +kernel) rfl), (mI 1189 (by decide +kernel) rfl), by decide, by decide, by decide +kernel⟩, (mI 1188 (by decide +kernel) rfl)⟩
theorem cm_X11_169 : CMV RX11 169 yX11_isNamed cX11_isNamed 4 (some .boolean) 1 := ⟨⟨Or.inl (mI 1190 (by decide +kernel) rfl), (mI 131 (by decide +kernel) rfl), (mI 1193 (by decide +kernel) rfl), by decide, by decide, by decide +kernel⟩, (mI 1192 (by decide +kernel) rfl), (mI 74 (by decide +kernel) rfl)⟩
theorem cm_X11_172 : CMV RX11 172 yX11_wrongAt cX11_wrongAt 2 none 1 := ⟨⟨Or.inl (mI 1179 (by decide +kernel) rfl), (mI 131 (by decide +kernel) rfl), (mI 1182 (by decide +kernel) rfl), by decide, by decide, by decide +kernel⟩, (mI 1181 (by decide +kernel) rfl), (mI 72 (by decide +kernel) rfl)⟩
theorem cm_X11_176 : CMS RX11 176 yX11_isDigit cX11_isDigit 1 (some .boolean) 1 := ⟨⟨Or.inl (mI 1226 (by decide +kernel) rfl), (mI 131 (by decide +kernel) rfl), (mI 1228 (by decide +kernel) rfl), by decide, by decide, by decide +kernel⟩, (mI 1227 (by decide +kernel) rfl)⟩
theorem cm_X11_179 : CMV RX11 179 yX11_readsRuleLetter cX11_readsRuleLetter 3 (some .int) 1 := ⟨⟨Or.inl (mI 1218 (by decide +kernel) rfl), (mI 131 (by decide +kernel) rfl), (mI 1221 (by decide +kernel) rfl), by decide, by decide, by decide +kernel⟩, (mI 1220 (by decide +kernel) rfl), (mI 79 (by decide +kernel) rfl)⟩
theorem cm_X11_182 : CMV RX11 182 yX11_readsNumber cX11_readsNumber 5 (some .int) 2 := ⟨⟨Or.inl (mI 1222 (by decide +kernel) rfl), (mI 131 (by decide +kernel) rfl), (mI 1225 (by decide +kernel) rfl), by decide, by decide, by decide +kernel⟩, (mI 1224 (by decide +kernel) rfl), (mI 80 (by decide +kernel) rfl)⟩
theorem cm_X11_191 : CMV RX11 191 yX11_readsName cX11_readsName 3 none 1 := ⟨⟨Or.inl (mI 1183 (by decide +kernel) rfl), (mI 131 (by decide +kernel) rfl), (mI 1186 (by decide +kernel) rfl), by decide, by decide, by decide +kernel⟩, (mI 1185 (by decide +kernel) rfl), (mI 73 (by decide +kernel) rfl)⟩
theorem cm_X11_194 : CMV RX11 194 yX11_readsPattern cX11_readsPattern 6 none 1 := ⟨⟨Or.inl (mI 1194 (by decide +kernel) rfl), (mI 131 (by decide +kernel) rfl), (mI 1197 (by decide +kernel) rfl), by decide, by decide, by decide +kernel⟩, (mI 1196 (by decide +kernel) rfl), (mI 75 (by decide +kernel) rfl)⟩
theorem cm_X11_197 : CMV RX11 197 yX11_readsRule cX11_readsRule 4 none 1 := ⟨⟨Or.inl (mI 1214 (by decide +kernel) rfl), (mI 131 (by decide +kernel) rfl), (mI 1217 (by decide +kernel) rfl), by decide, by decide, by decide +kernel⟩, (mI 1216 (by decide +kernel) rfl), (mI 78 (by decide +kernel) rfl)⟩
theorem cm_X11_200 : CMV RX11 200 yX11_readsForm cX11_readsForm 3 none 0 := ⟨⟨Or.inl (mI 1169 (by decide +kernel) rfl), (mI 131 (by decide +kernel) rfl), (mI 1172 (by decide +kernel) rfl), by decide, by decide, by decide +kernel⟩, (mI 1171 (by decide +kernel) rfl), (mI 70 (by decide +kernel) rfl)⟩
theorem cm_X11_203 : CMV RX11 203 yX11_newForms cX11_newForms 3 none 1 := ⟨⟨Or.inl (mI 1229 (by decide +kernel) rfl), (mI 131 (by decide +kernel) rfl), (mI 1232 (by decide +kernel) rfl), by decide, by decide, by decide +kernel⟩, (mI 1231 (by decide +kernel) rfl), (mI 81 (by decide +kernel) rfl)⟩
theorem cm_X11_206 : CMV RX11 206 yX11_isForm cX11_isForm 2 (some .boolean) 1 := ⟨⟨Or.inl (mI 1245 (by decide +kernel) rfl), (mI 131 (by decide +kernel) rfl), (mI 1248 (by decide +kernel) rfl), by decide, by decide, by decide +kernel⟩, (mI 1247 (by decide +kernel) rfl), (mI 84 (by decide +kernel) rfl)⟩
theorem cm_X11_211 : CMV RX11 211 yX11_fieldsOf cX11_fieldsOf 4 (some .int) 1 := ⟨⟨Or.inl (mI 1258 (by decide +kernel) rfl), (mI 131 (by decide +kernel) rfl), (mI 1261 (by decide +kernel) rfl), by decide, by decide, by decide +kernel⟩, (mI 1260 (by decide +kernel) rfl), (mI 87 (by decide +kernel) rfl)⟩
theorem cm_X11_214 : CMV RX11 214 yX11_nameMany cX11_nameMany 2 (some .int) 1 := ⟨⟨Or.inl (mI 1262 (by decide +kernel) rfl), (mI 131 (by decide +kernel) rfl), (mI 1265 (by decide +kernel) rfl), by decide, by decide, by decide +kernel⟩, (mI 1264 (by decide +kernel) rfl), (mI 88 (by decide +kernel) rfl)⟩
theorem cm_X11_221 : CMV RX11 221 yX11_formNamed cX11_formNamed 6 (some .int) 3 := ⟨⟨Or.inl (mI 1272 (by decide +kernel) rfl), (mI 131 (by decide +kernel) rfl), (mI 1275 (by decide +kernel) rfl), by decide, by decide, by decide +kernel⟩, (mI 1274 (by decide +kernel) rfl), (mI 89 (by decide +kernel) rfl)⟩
theorem cm_X11_229 : CMS RX11 229 yX11_isWord cX11_isWord 1 (some .boolean) 1 := ⟨⟨Or.inl (mI 1287 (by decide +kernel) rfl), (mI 131 (by decide +kernel) rfl), (mI 1289 (by decide +kernel) rfl), by decide, by decide, by decide +kernel⟩, (mI 1288 (by decide +kernel) rfl)⟩
theorem cm_X11_232 : CMV RX11 232 yX11_meant cX11_meant 2 (some .int) 1 := ⟨⟨Or.inl (mI 1290 (by decide +kernel) rfl), (mI 131 (by decide +kernel) rfl), (mI 1293 (by decide +kernel) rfl), by decide, by decide, by decide +kernel⟩, (mI 1292 (by decide +kernel) rfl), (mI 90 (by decide +kernel) rfl)⟩
theorem cm_X11_235 : CMV RX11 235 yX11_asked cX11_asked 2 (some .int) 1 := ⟨⟨Or.inl (mI 1329 (by decide +kernel) rfl), (mI 131 (by decide +kernel) rfl), (mI 1332 (by decide +kernel) rfl), by decide, by decide, by decide +kernel⟩, (mI 1331 (by decide +kernel) rfl), (mI 96 (by decide +kernel) rfl)⟩
theorem cm_X11_242 : CMV RX11 242 yX11_witness cX11_witness 4 (some .int) 2 := ⟨⟨Or.inl (mI 1347 (by decide +kernel) rfl), (mI 131 (by decide +kernel) rfl), (mI 1350 (by decide +kernel) rfl), by decide, by decide, by decide +kernel⟩, (mI 1349 (by decide +kernel) rfl), (mI 97 (by decide +kernel) rfl)⟩
theorem cm_X11_247 : CMV RX11 247 yX11_next cX11_next 4 (some .int) 2 := ⟨⟨Or.inl (mI 1356 (by decide +kernel) rfl), (mI 131 (by decide +kernel) rfl), (mI 1341 (by decide +kernel) rfl), by decide, by decide, by decide +kernel⟩, (mI 1339 (by decide +kernel) rfl), (mI 1340 (by decide +kernel) rfl)⟩
theorem cm_X11_250 : CMV RX11 250 yX11_isUseful cX11_isUseful 5 (some .boolean) 2 := ⟨⟨Or.inl (mI 1373 (by decide +kernel) rfl), (mI 131 (by decide +kernel) rfl), (mI 1376 (by decide +kernel) rfl), by decide, by decide, by decide +kernel⟩, (mI 1375 (by decide +kernel) rfl), (mI 100 (by decide +kernel) rfl)⟩
theorem cm_X11_253 : CMV RX11 253 yX11_side cX11_side 7 (some .int) 3 := ⟨⟨Or.inl (mI 1377 (by decide +kernel) rfl), (mI 131 (by decide +kernel) rfl), (mI 1380 (by decide +kernel) rfl), by decide, by decide, by decide +kernel⟩, (mI 1379 (by decide +kernel) rfl), (mI 101 (by decide +kernel) rfl)⟩
theorem cm_X11_256 : CMV RX11 256 yX11_greedyBit cX11_greedyBit 10 (some .int) 2 := ⟨⟨Or.inl (mI 1369 (by decide +kernel) rfl), (mI 131 (by decide +kernel) rfl), (mI 1372 (by decide +kernel) rfl), by decide, by decide, by decide +kernel⟩, (mI 1371 (by decide +kernel) rfl), (mI 99 (by decide +kernel) rfl)⟩
theorem cm_X11_268 : CMV RX11 268 yX11_goesGreedy cX11_goesGreedy 5 none 3 := ⟨⟨Or.inl (mI 1365 (by decide +kernel) rfl), (mI 131 (by decide +kernel) rfl), (mI 1368 (by decide +kernel) rfl), by decide, by decide, by decide +kernel⟩, (mI 1367 (by decide +kernel) rfl), (mI 98 (by decide +kernel) rfl)⟩
theorem cm_X11_272 : CMS RX11 272 yX11_isTests cX11_isTests 1 (some .boolean) 1 := ⟨⟨Or.inl (mI 1361 (by decide +kernel) rfl), (mI 131 (by decide +kernel) rfl), (mI 1363 (by decide +kernel) rfl), by decide, by decide, by decide +kernel⟩, (mI 1362 (by decide +kernel) rfl)⟩
theorem cm_X11_277 : CMV RX11 277 yX11_leastBy cX11_leastBy 5 (some .int) 3 := ⟨⟨Or.inl (mI 1389 (by decide +kernel) rfl), (mI 131 (by decide +kernel) rfl), (mI 1392 (by decide +kernel) rfl), by decide, by decide, by decide +kernel⟩, (mI 1391 (by decide +kernel) rfl), (mI 103 (by decide +kernel) rfl)⟩
theorem cm_X11_280 : CMV RX11 280 yX11_leastTests cX11_leastTests 6 (some .int) 2 := ⟨⟨Or.inl (mI 1385 (by decide +kernel) rfl), (mI 131 (by decide +kernel) rfl), (mI 1388 (by decide +kernel) rfl), by decide, by decide, by decide +kernel⟩, (mI 1387 (by decide +kernel) rfl), (mI 102 (by decide +kernel) rfl)⟩
theorem cm_X11_283 : CMV RX11 283 yX11_fieldAt cX11_fieldAt 7 (some .int) 2 := ⟨⟨Or.inl (mI 1402 (by decide +kernel) rfl), (mI 131 (by decide +kernel) rfl), (mI 1405 (by decide +kernel) rfl), by decide, by decide, by decide +kernel⟩, (mI 1404 (by decide +kernel) rfl), (mI 104 (by decide +kernel) rfl)⟩
theorem cm_X11_286 : CMV RX11 286 yX11_isField cX11_isField 3 (some .boolean) 2 := ⟨⟨Or.inl (mI 1410 (by decide +kernel) rfl), (mI 131 (by decide +kernel) rfl), (mI 1413 (by decide +kernel) rfl), by decide, by decide, by decide +kernel⟩, (mI 1412 (by decide +kernel) rfl), (mI 105 (by decide +kernel) rfl)⟩
theorem cm_X11_289 : CMV RX11 289 yX11_canStand cX11_canStand 5 (some .boolean) 3 := ⟨⟨Or.inl (mI 1418 (by decide +kernel) rfl), (mI 131 (by decide +kernel) rfl), (mI 1421 (by decide +kernel) rfl), by decide, by decide, by decide +kernel⟩, (mI 1420 (by decide +kernel) rfl), (mI 106 (by decide +kernel) rfl)⟩
theorem cm_X11_292 : CMV RX11 292 yX11_laidIn cX11_laidIn 8 (some .int) 4 := ⟨⟨Or.inl (mI 1422 (by decide +kernel) rfl), (mI 131 (by decide +kernel) rfl), (mI 1425 (by decide +kernel) rfl), by decide, by decide, by decide +kernel⟩, (mI 1424 (by decide +kernel) rfl), (mI 107 (by decide +kernel) rfl)⟩
theorem cm_X11_298 : CMV RX11 298 yX11_notes cX11_notes 2 none 0 := ⟨⟨Or.inl (mI 1435 (by decide +kernel) rfl), (mI 131 (by decide +kernel) rfl), (mI 1438 (by decide +kernel) rfl), by decide, by decide, by decide +kernel⟩, (mI 1437 (by decide +kernel) rfl), (mI 108 (by decide +kernel) rfl)⟩
theorem cm_X11_304 : CMV RX11 304 yX11_says cX11_says 2 none 1 := ⟨⟨Or.inl (mI 1447 (by decide +kernel) rfl), (mI 131 (by decide +kernel) rfl), (mI 1450 (by decide +kernel) rfl), by decide, by decide, by decide +kernel⟩, (mI 1449 (by decide +kernel) rfl), (mI 109 (by decide +kernel) rfl)⟩
theorem cm_X11_307 : CMV RX11 307 yX11_saysNumber cX11_saysNumber 4 none 1 := ⟨⟨Or.inl (mI 1451 (by decide +kernel) rfl), (mI 131 (by decide +kernel) rfl), (mI 1454 (by decide +kernel) rfl), by decide, by decide, by decide +kernel⟩, (mI 1453 (by decide +kernel) rfl), (mI 110 (by decide +kernel) rfl)⟩
theorem cm_X11_310 : CMV RX11 310 yX11_readsField cX11_readsField 7 (some .int) 2 := ⟨⟨Or.inl (mI 1463 (by decide +kernel) rfl), (mI 131 (by decide +kernel) rfl), (mI 1466 (by decide +kernel) rfl), by decide, by decide, by decide +kernel⟩, (mI 1465 (by decide +kernel) rfl), (mI 111 (by decide +kernel) rfl)⟩
theorem cm_X11_313 : CMS RX11 313 yX11_isCell cX11_isCell 1 (some .boolean) 1 := ⟨⟨Or.inl (mI 1471 (by decide +kernel) rfl), (mI 131 (by decide +kernel) rfl), (mI 1473 (by decide +kernel) rfl), by decide, by decide, by decide +kernel⟩, (mI 1472 (by decide +kernel) rfl)⟩
theorem cm_X11_316 : CMV RX11 316 yX11_firstOf cX11_firstOf 4 (some .int) 1 := ⟨⟨Or.inl (mI 1500 (by decide +kernel) rfl), (mI 131 (by decide +kernel) rfl), (mI 1503 (by decide +kernel) rfl), by decide, by decide, by decide +kernel⟩, (mI 1502 (by decide +kernel) rfl), (mI 114 (by decide +kernel) rfl)⟩
theorem cm_X11_325 : CMS RX11 325 yX11_round cX11_round 2 (some .int) 1 := ⟨⟨Or.inl (mI 1504 (by decide +kernel) rfl), (mI 131 (by decide +kernel) rfl), (mI 1506 (by decide +kernel) rfl), by decide, by decide, by decide +kernel⟩, (mI 1505 (by decide +kernel) rfl)⟩
theorem cm_X11_328 : CMV RX11 328 yX11_keeps cX11_keeps 3 none 1 := ⟨⟨Or.inl (mI 1507 (by decide +kernel) rfl), (mI 131 (by decide +kernel) rfl), (mI 1510 (by decide +kernel) rfl), by decide, by decide, by decide +kernel⟩, (mI 1509 (by decide +kernel) rfl), (mI 115 (by decide +kernel) rfl)⟩
theorem cm_X11_335 : CMV RX11 335 yX11_begins cX11_begins 2 none 1 := ⟨⟨Or.inl (mI 1492 (by decide +kernel) rfl), (mI 131 (by decide +kernel) rfl), (mI 1495 (by decide +kernel) rfl), by decide, by decide, by decide +kernel⟩, (mI 1494 (by decide +kernel) rfl), (mI 112 (by decide +kernel) rfl)⟩
theorem cm_X11_338 : CMV RX11 338 yX11_steps cX11_steps 5 (some .boolean) 0 := ⟨⟨Or.inl (mI 1496 (by decide +kernel) rfl), (mI 131 (by decide +kernel) rfl), (mI 1499 (by decide +kernel) rfl), by decide, by decide, by decide +kernel⟩, (mI 1498 (by decide +kernel) rfl), (mI 113 (by decide +kernel) rfl)⟩
theorem cm_X11_342 : CMV RX11 342 yX11_costsOf cX11_costsOf 5 (some .int) 1 := ⟨⟨Or.inl (mI 1511 (by decide +kernel) rfl), (mI 131 (by decide +kernel) rfl), (mI 1514 (by decide +kernel) rfl), by decide, by decide, by decide +kernel⟩, (mI 1513 (by decide +kernel) rfl), (mI 116 (by decide +kernel) rfl)⟩
theorem cm_X11_345 : CMV RX11 345 yX11_placeMet cX11_placeMet 4 (some .int) 1 := ⟨⟨Or.inl (mI 1527 (by decide +kernel) rfl), (mI 131 (by decide +kernel) rfl), (mI 1530 (by decide +kernel) rfl), by decide, by decide, by decide +kernel⟩, (mI 1529 (by decide +kernel) rfl), (mI 118 (by decide +kernel) rfl)⟩
theorem cm_X11_348 : CMV RX11 348 yX11_meets cX11_meets 3 none 1 := ⟨⟨Or.inl (mI 1523 (by decide +kernel) rfl), (mI 131 (by decide +kernel) rfl), (mI 1526 (by decide +kernel) rfl), by decide, by decide, by decide +kernel⟩, (mI 1525 (by decide +kernel) rfl), (mI 117 (by decide +kernel) rfl)⟩
theorem cm_X11_351 : CMS RX11 351 yX11_move cX11_move 3 none 2 := ⟨⟨Or.inl (mI 1547 (by decide +kernel) rfl), (mI 131 (by decide +kernel) rfl), (mI 1549 (by decide +kernel) rfl), by decide, by decide, by decide +kernel⟩, (mI 1548 (by decide +kernel) rfl)⟩
theorem cm_X3_52 : CMV RX3 52 yX2_clear cX2_clear 1 none 0 := ⟨⟨Or.inr ⟨"DecoderForge", (mI 530 (by decide +kernel) rfl)⟩, (mI 125 (by decide +kernel) rfl), (mI 533 (by decide +kernel) rfl), by decide, by decide, by decide +kernel⟩, (mI 532 (by decide +kernel) rfl), (mI 5 (by decide +kernel) rfl)⟩
theorem cm_X3_55 : CMS RX3 55 yX10_letterOf cX10_letterOf 1 (some .int) 1 := ⟨⟨Or.inr ⟨"DecoderForge", (mI 571 (by decide +kernel) rfl)⟩, (mI 120 (by decide +kernel) rfl), (mI 573 (by decide +kernel) rfl), by decide, by decide, by decide +kernel⟩, (mI 572 (by decide +kernel) rfl)⟩
theorem cm_X3_62 : CMV RX3 62 yX2_addBit cX2_addBit 2 (some .boolean) 1 := ⟨⟨Or.inr ⟨"DecoderForge", (mI 574 (by decide +kernel) rfl)⟩, (mI 125 (by decide +kernel) rfl), (mI 577 (by decide +kernel) rfl), by decide, by decide, by decide +kernel⟩, (mI 576 (by decide +kernel) rfl), (mI 13 (by decide +kernel) rfl)⟩
theorem cm_X3_66 : CMV RX3 66 yX3_holdsIn cX3_holdsIn 5 (some .boolean) 2 := ⟨⟨Or.inl (mI 662 (by decide +kernel) rfl), (mI 124 (by decide +kernel) rfl), (mI 665 (by decide +kernel) rfl), by decide, by decide, by decide +kernel⟩, (mI 664 (by decide +kernel) rfl), (mI 25 (by decide +kernel) rfl)⟩
theorem cm_X3_70 : CMV RX3 70 yX2_numberIn cX2_numberIn 4 (some .int) 1 := ⟨⟨Or.inr ⟨"DecoderForge", (mI 666 (by decide +kernel) rfl)⟩, (mI 125 (by decide +kernel) rfl), (mI 669 (by decide +kernel) rfl), by decide, by decide, by decide +kernel⟩, (mI 668 (by decide +kernel) rfl), (mI 26 (by decide +kernel) rfl)⟩
theorem cm_X3_73 : CMV RX3 73 yX2_canHold cX2_canHold 3 (some .boolean) 1 := ⟨⟨Or.inr ⟨"DecoderForge", (mI 859 (by decide +kernel) rfl)⟩, (mI 125 (by decide +kernel) rfl), (mI 831 (by decide +kernel) rfl), by decide, by decide, by decide +kernel⟩, (mI 830 (by decide +kernel) rfl), (mI 47 (by decide +kernel) rfl)⟩
theorem cm_X3_76 : CMV RX3 76 yX2_putInto cX2_putInto 5 (some .int) 2 := ⟨⟨Or.inr ⟨"DecoderForge", (mI 860 (by decide +kernel) rfl)⟩, (mI 125 (by decide +kernel) rfl), (mI 835 (by decide +kernel) rfl), by decide, by decide, by decide +kernel⟩, (mI 834 (by decide +kernel) rfl), (mI 48 (by decide +kernel) rfl)⟩
theorem cm_X3_80 : CMV RX3 80 yX3_fieldAt cX3_fieldAt 2 (some (.object "DecoderForge$Field")) 1 := ⟨⟨Or.inl (mI 959 (by decide +kernel) rfl), (mI 124 (by decide +kernel) rfl), (mI 877 (by decide +kernel) rfl), by decide, by decide, by decide +kernel⟩, (mI 876 (by decide +kernel) rfl), (mI 54 (by decide +kernel) rfl)⟩
theorem cm_X3_84 : CMV RX3 84 yX3_firstIn cX3_firstIn 2 (some .int) 1 := ⟨⟨Or.inl (mI 955 (by decide +kernel) rfl), (mI 124 (by decide +kernel) rfl), (mI 958 (by decide +kernel) rfl), by decide, by decide, by decide +kernel⟩, (mI 957 (by decide +kernel) rfl), (mI 63 (by decide +kernel) rfl)⟩
theorem cm_X4_25 : CMV RX4 25 yX3_isTwinOf cX3_isTwinOf 2 (some .boolean) 1 := ⟨⟨Or.inr ⟨"DecoderForge", (mI 730 (by decide +kernel) rfl)⟩, (mI 124 (by decide +kernel) rfl), (mI 733 (by decide +kernel) rfl), by decide, by decide, by decide +kernel⟩, (mI 732 (by decide +kernel) rfl), (mI 34 (by decide +kernel) rfl)⟩
theorem cm_X5_30 : CMV RX5 30 yX5_formNamed cX5_formNamed 3 (some .int) 0 := ⟨⟨Or.inl (mI 895 (by decide +kernel) rfl), (mI 129 (by decide +kernel) rfl), (mI 898 (by decide +kernel) rfl), by decide, by decide, by decide +kernel⟩, (mI 897 (by decide +kernel) rfl), (mI 57 (by decide +kernel) rfl)⟩
theorem cm_X5_34 : CMV RX5 34 yX4_has cX4_has 2 (some .boolean) 1 := ⟨⟨Or.inr ⟨"DecoderForge", (mI 903 (by decide +kernel) rfl)⟩, (mI 123 (by decide +kernel) rfl), (mI 620 (by decide +kernel) rfl), by decide, by decide, by decide +kernel⟩, (mI 619 (by decide +kernel) rfl), (mI 21 (by decide +kernel) rfl)⟩
theorem cm_X5_44 : CMV RX5 44 yX5_numbers cX5_numbers 3 (some .boolean) 1 := ⟨⟨Or.inl (mI 904 (by decide +kernel) rfl), (mI 129 (by decide +kernel) rfl), (mI 907 (by decide +kernel) rfl), by decide, by decide, by decide +kernel⟩, (mI 906 (by decide +kernel) rfl), (mI 58 (by decide +kernel) rfl)⟩
theorem cm_X5_53 : CMV RX5 53 yX6_meaningOf cX6_meaningOf 2 (some .int) 1 := ⟨⟨Or.inr ⟨"DecoderForge", (mI 916 (by decide +kernel) rfl)⟩, (mI 126 (by decide +kernel) rfl), (mI 653 (by decide +kernel) rfl), by decide, by decide, by decide +kernel⟩, (mI 652 (by decide +kernel) rfl), (mI 22 (by decide +kernel) rfl)⟩
theorem cm_X5_59 : CMV RX5 59 yX0_at cX0_at 2 (some .int) 1 := ⟨⟨Or.inr ⟨"DecoderForge", (mI 899 (by decide +kernel) rfl)⟩, (mI 121 (by decide +kernel) rfl), (mI 541 (by decide +kernel) rfl), by decide, by decide, by decide +kernel⟩, (mI 540 (by decide +kernel) rfl), (mI 7 (by decide +kernel) rfl)⟩
theorem cm_X5_62 : CMS RX5 62 yX10_within cX10_within 3 (some .boolean) 3 := ⟨⟨Or.inr ⟨"DecoderForge", (mI 900 (by decide +kernel) rfl)⟩, (mI 120 (by decide +kernel) rfl), (mI 501 (by decide +kernel) rfl), by decide, by decide, by decide +kernel⟩, (mI 500 (by decide +kernel) rfl)⟩
theorem cm_X5_66 : CMS RX5 66 yX10_withSign cX10_withSign 2 (some .int) 2 := ⟨⟨Or.inr ⟨"DecoderForge", (mI 901 (by decide +kernel) rfl)⟩, (mI 120 (by decide +kernel) rfl), (mI 554 (by decide +kernel) rfl), by decide, by decide, by decide +kernel⟩, (mI 553 (by decide +kernel) rfl)⟩
theorem cm_X5_73 : CMV RX5 73 yX4_find cX4_find 4 (some .int) 2 := ⟨⟨Or.inr ⟨"DecoderForge", (mI 902 (by decide +kernel) rfl)⟩, (mI 123 (by decide +kernel) rfl), (mI 558 (by decide +kernel) rfl), by decide, by decide, by decide +kernel⟩, (mI 557 (by decide +kernel) rfl), (mI 9 (by decide +kernel) rfl)⟩
theorem cm_X5_84 : CMV RX5 84 yX3_fieldAt cX3_fieldAt 2 (some (.object "DecoderForge$Field")) 1 := ⟨⟨Or.inr ⟨"DecoderForge", (mI 908 (by decide +kernel) rfl)⟩, (mI 124 (by decide +kernel) rfl), (mI 877 (by decide +kernel) rfl), by decide, by decide, by decide +kernel⟩, (mI 876 (by decide +kernel) rfl), (mI 54 (by decide +kernel) rfl)⟩
theorem cm_X5_88 : CMV RX5 88 yX5_number cX5_number 6 (some .boolean) 1 := ⟨⟨Or.inl (mI 909 (by decide +kernel) rfl), (mI 129 (by decide +kernel) rfl), (mI 912 (by decide +kernel) rfl), by decide, by decide, by decide +kernel⟩, (mI 911 (by decide +kernel) rfl), (mI 59 (by decide +kernel) rfl)⟩
theorem cm_X5_92 : CMS RX5 92 yX10_isDigit cX10_isDigit 1 (some .boolean) 1 := ⟨⟨Or.inr ⟨"DecoderForge", (mI 913 (by decide +kernel) rfl)⟩, (mI 120 (by decide +kernel) rfl), (mI 597 (by decide +kernel) rfl), by decide, by decide, by decide +kernel⟩, (mI 596 (by decide +kernel) rfl)⟩
theorem cm_X5_95 : CMV RX5 95 yX2_canHold cX2_canHold 3 (some .boolean) 1 := ⟨⟨Or.inr ⟨"DecoderForge", (mI 914 (by decide +kernel) rfl)⟩, (mI 125 (by decide +kernel) rfl), (mI 831 (by decide +kernel) rfl), by decide, by decide, by decide +kernel⟩, (mI 830 (by decide +kernel) rfl), (mI 47 (by decide +kernel) rfl)⟩
theorem cm_X5_100 : CMV RX5 100 yX2_putInto cX2_putInto 5 (some .int) 2 := ⟨⟨Or.inr ⟨"DecoderForge", (mI 915 (by decide +kernel) rfl)⟩, (mI 125 (by decide +kernel) rfl), (mI 835 (by decide +kernel) rfl), by decide, by decide, by decide +kernel⟩, (mI 834 (by decide +kernel) rfl), (mI 48 (by decide +kernel) rfl)⟩
theorem cm_X6_39 : CMS RX6 39 yJ7_fill_53178 cJ7_fill_53178 4 none 2 := ⟨⟨Or.inl (mI 606 (by decide +kernel) rfl), (mI 132 (by decide +kernel) rfl), (mI 608 (by decide +kernel) rfl), by decide, by decide, by decide +kernel⟩, (mI 607 (by decide +kernel) rfl)⟩
theorem cm_X6_54 : CMV RX6 54 yX3_isOver cX3_isOver 3 (some .boolean) 1 := ⟨⟨Or.inr ⟨"DecoderForge", (mI 609 (by decide +kernel) rfl)⟩, (mI 124 (by decide +kernel) rfl), (mI 612 (by decide +kernel) rfl), by decide, by decide, by decide +kernel⟩, (mI 611 (by decide +kernel) rfl), (mI 20 (by decide +kernel) rfl)⟩
theorem cm_X6_60 : CMV RX6 60 yX6_knownOf cX6_knownOf 5 (some .int) 1 := ⟨⟨Or.inl (mI 654 (by decide +kernel) rfl), (mI 126 (by decide +kernel) rfl), (mI 657 (by decide +kernel) rfl), by decide, by decide, by decide +kernel⟩, (mI 656 (by decide +kernel) rfl), (mI 23 (by decide +kernel) rfl)⟩
theorem cm_X6_64 : CMV RX6 64 yX3_doesFit cX3_doesFit 3 (some .boolean) 1 := ⟨⟨Or.inr ⟨"DecoderForge", (mI 658 (by decide +kernel) rfl)⟩, (mI 124 (by decide +kernel) rfl), (mI 661 (by decide +kernel) rfl), by decide, by decide, by decide +kernel⟩, (mI 660 (by decide +kernel) rfl), (mI 24 (by decide +kernel) rfl)⟩
theorem cm_X6_68 : CMV RX6 68 yX6_meaningAmong cX6_meaningAmong 4 (some .int) 1 := ⟨⟨Or.inl (mI 670 (by decide +kernel) rfl), (mI 126 (by decide +kernel) rfl), (mI 673 (by decide +kernel) rfl), by decide, by decide, by decide +kernel⟩, (mI 672 (by decide +kernel) rfl), (mI 27 (by decide +kernel) rfl)⟩
theorem cm_X6_71 : CMV RX6 71 yX6_meaningOf cX6_meaningOf 2 (some .int) 1 := ⟨⟨Or.inl (mI 699 (by decide +kernel) rfl), (mI 126 (by decide +kernel) rfl), (mI 653 (by decide +kernel) rfl), by decide, by decide, by decide +kernel⟩, (mI 652 (by decide +kernel) rfl), (mI 22 (by decide +kernel) rfl)⟩
theorem cm_X6_74 : CMS RX6 74 yX10_within cX10_within 3 (some .boolean) 3 := ⟨⟨Or.inr ⟨"DecoderForge", (mI 700 (by decide +kernel) rfl)⟩, (mI 120 (by decide +kernel) rfl), (mI 501 (by decide +kernel) rfl), by decide, by decide, by decide +kernel⟩, (mI 500 (by decide +kernel) rfl)⟩
theorem cm_X6_78 : CMV RX6 78 yX6_fittingOf cX6_fittingOf 2 (some .int) 1 := ⟨⟨Or.inl (mI 701 (by decide +kernel) rfl), (mI 126 (by decide +kernel) rfl), (mI 681 (by decide +kernel) rfl), by decide, by decide, by decide +kernel⟩, (mI 680 (by decide +kernel) rfl), (mI 28 (by decide +kernel) rfl)⟩
theorem cm_X6_81 : CMV RX6 81 yX6_noteClashes cX6_noteClashes 6 none 2 := ⟨⟨Or.inl (mI 702 (by decide +kernel) rfl), (mI 126 (by decide +kernel) rfl), (mI 705 (by decide +kernel) rfl), by decide, by decide, by decide +kernel⟩, (mI 704 (by decide +kernel) rfl), (mI 31 (by decide +kernel) rfl)⟩
theorem cm_X7_31 : CMV RX7 31 yX7_statement cX7_statement 2 (some .boolean) 0 := ⟨⟨Or.inl (mI 522 (by decide +kernel) rfl), (mI 128 (by decide +kernel) rfl), (mI 525 (by decide +kernel) rfl), by decide, by decide, by decide +kernel⟩, (mI 524 (by decide +kernel) rfl), (mI 3 (by decide +kernel) rfl)⟩
theorem cm_X7_40 : CMV RX7 40 yX7_sign cX7_sign 2 (some .boolean) 1 := ⟨⟨Or.inl (mI 559 (by decide +kernel) rfl), (mI 128 (by decide +kernel) rfl), (mI 562 (by decide +kernel) rfl), by decide, by decide, by decide +kernel⟩, (mI 561 (by decide +kernel) rfl), (mI 10 (by decide +kernel) rfl)⟩
theorem cm_X7_48 : CMV RX7 48 yX3_clear cX3_clear 2 none 0 := ⟨⟨Or.inr ⟨"DecoderForge", (mI 526 (by decide +kernel) rfl)⟩, (mI 124 (by decide +kernel) rfl), (mI 529 (by decide +kernel) rfl), by decide, by decide, by decide +kernel⟩, (mI 528 (by decide +kernel) rfl), (mI 4 (by decide +kernel) rfl)⟩
theorem cm_X7_53 : CMV RX7 53 yX7_kind cX7_kind 2 (some .boolean) 1 := ⟨⟨Or.inl (mI 534 (by decide +kernel) rfl), (mI 128 (by decide +kernel) rfl), (mI 537 (by decide +kernel) rfl), by decide, by decide, by decide +kernel⟩, (mI 536 (by decide +kernel) rfl), (mI 6 (by decide +kernel) rfl)⟩
theorem cm_X7_57 : CMV RX7 57 yX7_name cX7_name 4 (some .boolean) 1 := ⟨⟨Or.inl (mI 547 (by decide +kernel) rfl), (mI 128 (by decide +kernel) rfl), (mI 550 (by decide +kernel) rfl), by decide, by decide, by decide +kernel⟩, (mI 549 (by decide +kernel) rfl), (mI 8 (by decide +kernel) rfl)⟩
theorem cm_X7_60 : CMV RX7 60 yX7_pattern cX7_pattern 3 (some .boolean) 1 := ⟨⟨Or.inl (mI 563 (by decide +kernel) rfl), (mI 128 (by decide +kernel) rfl), (mI 566 (by decide +kernel) rfl), by decide, by decide, by decide +kernel⟩, (mI 565 (by decide +kernel) rfl), (mI 11 (by decide +kernel) rfl)⟩
theorem cm_X7_63 : CMV RX7 63 yX7_rules cX7_rules 3 (some .boolean) 1 := ⟨⟨Or.inl (mI 578 (by decide +kernel) rfl), (mI 128 (by decide +kernel) rfl), (mI 581 (by decide +kernel) rfl), by decide, by decide, by decide +kernel⟩, (mI 580 (by decide +kernel) rfl), (mI 14 (by decide +kernel) rfl)⟩
theorem cm_X7_66 : CMV RX7 66 yX0_at cX0_at 2 (some .int) 1 := ⟨⟨Or.inr ⟨"DecoderForge", (mI 538 (by decide +kernel) rfl)⟩, (mI 121 (by decide +kernel) rfl), (mI 541 (by decide +kernel) rfl), by decide, by decide, by decide +kernel⟩, (mI 540 (by decide +kernel) rfl), (mI 7 (by decide +kernel) rfl)⟩
theorem cm_X7_70 : CMS RX7 70 yX10_kindOf cX10_kindOf 2 (some .int) 1 := ⟨⟨Or.inr ⟨"DecoderForge", (mI 542 (by decide +kernel) rfl)⟩, (mI 120 (by decide +kernel) rfl), (mI 544 (by decide +kernel) rfl), by decide, by decide, by decide +kernel⟩, (mI 543 (by decide +kernel) rfl)⟩
theorem cm_X7_75 : CMS RX7 75 yX10_within cX10_within 3 (some .boolean) 3 := ⟨⟨Or.inr ⟨"DecoderForge", (mI 551 (by decide +kernel) rfl)⟩, (mI 120 (by decide +kernel) rfl), (mI 501 (by decide +kernel) rfl), by decide, by decide, by decide +kernel⟩, (mI 500 (by decide +kernel) rfl)⟩
theorem cm_X7_79 : CMS RX7 79 yX10_withSign cX10_withSign 2 (some .int) 2 := ⟨⟨Or.inr ⟨"DecoderForge", (mI 552 (by decide +kernel) rfl)⟩, (mI 120 (by decide +kernel) rfl), (mI 554 (by decide +kernel) rfl), by decide, by decide, by decide +kernel⟩, (mI 553 (by decide +kernel) rfl)⟩
theorem cm_X7_83 : CMV RX7 83 yX4_find cX4_find 4 (some .int) 2 := ⟨⟨Or.inr ⟨"DecoderForge", (mI 555 (by decide +kernel) rfl)⟩, (mI 123 (by decide +kernel) rfl), (mI 558 (by decide +kernel) rfl), by decide, by decide, by decide +kernel⟩, (mI 557 (by decide +kernel) rfl), (mI 9 (by decide +kernel) rfl)⟩
theorem cm_X7_88 : CMV RX7 88 yX3_addSign cX3_addSign 4 (some .boolean) 2 := ⟨⟨Or.inr ⟨"DecoderForge", (mI 567 (by decide +kernel) rfl)⟩, (mI 124 (by decide +kernel) rfl), (mI 570 (by decide +kernel) rfl), by decide, by decide, by decide +kernel⟩, (mI 569 (by decide +kernel) rfl), (mI 12 (by decide +kernel) rfl)⟩
theorem cm_X7_92 : CMV RX7 92 yX7_rule cX7_rule 5 (some .boolean) 1 := ⟨⟨Or.inl (mI 582 (by decide +kernel) rfl), (mI 128 (by decide +kernel) rfl), (mI 585 (by decide +kernel) rfl), by decide, by decide, by decide +kernel⟩, (mI 584 (by decide +kernel) rfl), (mI 15 (by decide +kernel) rfl)⟩
theorem cm_X7_95 : CMS RX7 95 yX10_letterOf cX10_letterOf 1 (some .int) 1 := ⟨⟨Or.inr ⟨"DecoderForge", (mI 586 (by decide +kernel) rfl)⟩, (mI 120 (by decide +kernel) rfl), (mI 573 (by decide +kernel) rfl), by decide, by decide, by decide +kernel⟩, (mI 572 (by decide +kernel) rfl)⟩
theorem cm_X7_98 : CMV RX7 98 yX7_letter cX7_letter 3 (some .boolean) 1 := ⟨⟨Or.inl (mI 587 (by decide +kernel) rfl), (mI 128 (by decide +kernel) rfl), (mI 590 (by decide +kernel) rfl), by decide, by decide, by decide +kernel⟩, (mI 589 (by decide +kernel) rfl), (mI 16 (by decide +kernel) rfl)⟩
theorem cm_X7_101 : CMV RX7 101 yX7_number cX7_number 6 (some .int) 2 := ⟨⟨Or.inl (mI 591 (by decide +kernel) rfl), (mI 128 (by decide +kernel) rfl), (mI 594 (by decide +kernel) rfl), by decide, by decide, by decide +kernel⟩, (mI 593 (by decide +kernel) rfl), (mI 17 (by decide +kernel) rfl)⟩
theorem cm_X7_104 : CMV RX7 104 yX3_addRule cX3_addRule 4 none 3 := ⟨⟨Or.inr ⟨"DecoderForge", (mI 598 (by decide +kernel) rfl)⟩, (mI 124 (by decide +kernel) rfl), (mI 601 (by decide +kernel) rfl), by decide, by decide, by decide +kernel⟩, (mI 600 (by decide +kernel) rfl), (mI 18 (by decide +kernel) rfl)⟩
theorem cm_X7_117 : CMS RX7 117 yX10_isDigit cX10_isDigit 1 (some .boolean) 1 := ⟨⟨Or.inr ⟨"DecoderForge", (mI 595 (by decide +kernel) rfl)⟩, (mI 120 (by decide +kernel) rfl), (mI 597 (by decide +kernel) rfl), by decide, by decide, by decide +kernel⟩, (mI 596 (by decide +kernel) rfl)⟩
theorem cm_X8_64 : CMV RX8 64 yX8_lookAtForms cX8_lookAtForms 4 none 0 := ⟨⟨Or.inl (mI 755 (by decide +kernel) rfl), (mI 127 (by decide +kernel) rfl), (mI 758 (by decide +kernel) rfl), by decide, by decide, by decide +kernel⟩, (mI 757 (by decide +kernel) rfl), (mI 37 (by decide +kernel) rfl)⟩
theorem cm_X8_67 : CMV RX8 67 yX4_allOfThem cX4_allOfThem 1 (some .int) 0 := ⟨⟨Or.inr ⟨"DecoderForge", (mI 759 (by decide +kernel) rfl)⟩, (mI 123 (by decide +kernel) rfl), (mI 762 (by decide +kernel) rfl), by decide, by decide, by decide +kernel⟩, (mI 761 (by decide +kernel) rfl), (mI 38 (by decide +kernel) rfl)⟩
theorem cm_X8_71 : CMV RX8 71 yX8_greedyBit cX8_greedyBit 11 (some .int) 2 := ⟨⟨Or.inl (mI 763 (by decide +kernel) rfl), (mI 127 (by decide +kernel) rfl), (mI 766 (by decide +kernel) rfl), by decide, by decide, by decide +kernel⟩, (mI 765 (by decide +kernel) rfl), (mI 39 (by decide +kernel) rfl)⟩
theorem cm_X8_75 : CMS RX8 75 yX8_grow cX8_grow 6 none 4 := ⟨⟨Or.inl (mI 775 (by decide +kernel) rfl), (mI 127 (by decide +kernel) rfl), (mI 777 (by decide +kernel) rfl), by decide, by decide, by decide +kernel⟩, (mI 776 (by decide +kernel) rfl)⟩
theorem cm_X8_84 : CMS RX8 84 yJ6_bitCount_0f7a4 cJ6_bitCount_0f7a4 1 (some .int) 1 := ⟨⟨Or.inl (mI 771 (by decide +kernel) rfl), (mI 133 (by decide +kernel) rfl), (mI 747 (by decide +kernel) rfl), by decide, by decide, by decide +kernel⟩, (mI 746 (by decide +kernel) rfl)⟩
theorem cm_X8_90 : CMV RX8 90 yX8_isUseful cX8_isUseful 3 (some .boolean) 2 := ⟨⟨Or.inl (mI 767 (by decide +kernel) rfl), (mI 127 (by decide +kernel) rfl), (mI 770 (by decide +kernel) rfl), by decide, by decide, by decide +kernel⟩, (mI 769 (by decide +kernel) rfl), (mI 40 (by decide +kernel) rfl)⟩
theorem cm_X8_94 : CMV RX8 94 yX8_fillStates cX8_fillStates 6 none 1 := ⟨⟨Or.inl (mI 786 (by decide +kernel) rfl), (mI 127 (by decide +kernel) rfl), (mI 789 (by decide +kernel) rfl), by decide, by decide, by decide +kernel⟩, (mI 788 (by decide +kernel) rfl), (mI 42 (by decide +kernel) rfl)⟩
theorem cm_X8_101 : CMV RX8 101 yX8_chooseLeast cX8_chooseLeast 8 none 2 := ⟨⟨Or.inl (mI 792 (by decide +kernel) rfl), (mI 127 (by decide +kernel) rfl), (mI 795 (by decide +kernel) rfl), by decide, by decide, by decide +kernel⟩, (mI 794 (by decide +kernel) rfl), (mI 43 (by decide +kernel) rfl)⟩
theorem cm_X9_48 : CMV RX9 48 yX6_meaningOf cX6_meaningOf 2 (some .int) 1 := ⟨⟨Or.inr ⟨"DecoderForge", (mI 949 (by decide +kernel) rfl)⟩, (mI 126 (by decide +kernel) rfl), (mI 653 (by decide +kernel) rfl), by decide, by decide, by decide +kernel⟩, (mI 652 (by decide +kernel) rfl), (mI 22 (by decide +kernel) rfl)⟩
theorem cm_X9_54 : CMV RX9 54 yX4_has cX4_has 2 (some .boolean) 1 := ⟨⟨Or.inr ⟨"DecoderForge", (mI 950 (by decide +kernel) rfl)⟩, (mI 123 (by decide +kernel) rfl), (mI 620 (by decide +kernel) rfl), by decide, by decide, by decide +kernel⟩, (mI 619 (by decide +kernel) rfl), (mI 21 (by decide +kernel) rfl)⟩
theorem cm_X9_69 : CMV RX9 69 yX3_costOf cX3_costOf 4 (some .int) 1 := ⟨⟨Or.inr ⟨"DecoderForge", (mI 951 (by decide +kernel) rfl)⟩, (mI 124 (by decide +kernel) rfl), (mI 954 (by decide +kernel) rfl), by decide, by decide, by decide +kernel⟩, (mI 953 (by decide +kernel) rfl), (mI 62 (by decide +kernel) rfl)⟩
theorem cm_X9_72 : CMV RX9 72 yX3_firstIn cX3_firstIn 2 (some .int) 1 := ⟨⟨Or.inr ⟨"DecoderForge", (mI 963 (by decide +kernel) rfl)⟩, (mI 124 (by decide +kernel) rfl), (mI 958 (by decide +kernel) rfl), by decide, by decide, by decide +kernel⟩, (mI 957 (by decide +kernel) rfl), (mI 63 (by decide +kernel) rfl)⟩
theorem cm_X9_75 : CMV RX9 75 yX9_cellBehind cX9_cellBehind 5 (some .int) 2 := ⟨⟨Or.inl (mI 964 (by decide +kernel) rfl), (mI 130 (by decide +kernel) rfl), (mI 967 (by decide +kernel) rfl), by decide, by decide, by decide +kernel⟩, (mI 966 (by decide +kernel) rfl), (mI 64 (by decide +kernel) rfl)⟩
theorem cm_X9_79 : CMV RX9 79 yX9_keepReturn cX9_keepReturn 2 none 1 := ⟨⟨Or.inl (mI 968 (by decide +kernel) rfl), (mI 130 (by decide +kernel) rfl), (mI 971 (by decide +kernel) rfl), by decide, by decide, by decide +kernel⟩, (mI 970 (by decide +kernel) rfl), (mI 65 (by decide +kernel) rfl)⟩
theorem cm_X9_83 : CMV RX9 83 yX9_latestReturn cX9_latestReturn 1 (some .int) 0 := ⟨⟨Or.inl (mI 973 (by decide +kernel) rfl), (mI 130 (by decide +kernel) rfl), (mI 976 (by decide +kernel) rfl), by decide, by decide, by decide +kernel⟩, (mI 975 (by decide +kernel) rfl), (mI 66 (by decide +kernel) rfl)⟩
theorem kw_J6_265 : Cond.constant RJ6 265 (1431655765 : Int32) ∈ TB := (mI 748 (by decide +kernel) rfl)
theorem kw_J6_266 : Cond.constant RJ6 266 (858993459 : Int32) ∈ TB := (mI 749 (by decide +kernel) rfl)
theorem kw_J6_267 : Cond.constant RJ6 267 (252645135 : Int32) ∈ TB := (mI 750 (by decide +kernel) rfl)
theorem kw_X10_354 : Cond.constant RX10 354 (65536 : Int32) ∈ TB := (mI 624 (by decide +kernel) rfl)
theorem kw_X11_87 : Cond.constantLong RX11 87 (7 : Int64) ∈ TB := (mI 1401 (by decide +kernel) rfl)
theorem kw_X11_143 : Cond.constantLong RX11 143 (8 : Int64) ∈ TB := (mI 1152 (by decide +kernel) rfl)
theorem kw_X11_151 : Cond.constantLong RX11 151 (255 : Int64) ∈ TB := (mI 1160 (by decide +kernel) rfl)
theorem kw_X11_209 : Cond.constantLong RX11 209 (5 : Int64) ∈ TB := (mI 1249 (by decide +kernel) rfl)
theorem kw_X11_217 : Cond.constantLong RX11 217 (25 : Int64) ∈ TB := (mI 1270 (by decide +kernel) rfl)
theorem kw_X11_219 : Cond.constantLong RX11 219 (-1 : Int64) ∈ TB := (mI 1271 (by decide +kernel) rfl)
theorem kw_X11_224 : Cond.constantLong RX11 224 (6 : Int64) ∈ TB := (mI 1280 (by decide +kernel) rfl)
theorem kw_X11_238 : Cond.constantLong RX11 238 (63 : Int64) ∈ TB := (mI 1337 (by decide +kernel) rfl)
theorem kw_X11_240 : Cond.constantLong RX11 240 (4095 : Int64) ∈ TB := (mI 1342 (by decide +kernel) rfl)
theorem kw_X11_245 : Cond.constantLong RX11 245 (2 : Int64) ∈ TB := (mI 1355 (by decide +kernel) rfl)
theorem kw_X11_275 : Cond.constantLong RX11 275 (3 : Int64) ∈ TB := (mI 1364 (by decide +kernel) rfl)
theorem kw_X11_296 : Cond.constantLong RX11 296 (-128 : Int64) ∈ TB := (mI 1434 (by decide +kernel) rfl)
theorem kw_X11_331 : Cond.constantLong RX11 331 (200 : Int64) ∈ TB := (mI 1490 (by decide +kernel) rfl)
theorem kw_X11_333 : Cond.constantLong RX11 333 (4 : Int64) ∈ TB := (mI 1491 (by decide +kernel) rfl)
theorem is_0 : Is 10 0 := ⟨by decide, by decide⟩
theorem is_1 : Is 0 1 := ⟨by decide, by decide⟩
theorem is_3 : Is 1 3 := ⟨by decide, by decide⟩
theorem is_7 : Is 15 7 := ⟨by decide, by decide⟩
theorem al_7 : al 7 = 16 := by decide
theorem is_8 : Is 12 8 := ⟨by decide, by decide⟩
theorem al_8 : al 8 = 3 := by decide
theorem is_9 : Is 4 9 := ⟨by decide, by decide⟩
theorem is_10 : Is 13 10 := ⟨by decide, by decide⟩
theorem al_10 : al 10 = 12 := by decide
theorem is_275 : Is 6 275 := ⟨by decide, by decide⟩
theorem is_276 : Is 12 276 := ⟨by decide, by decide⟩
theorem al_276 : al 276 = 4096 := by decide
theorem is_277 : Is 12 277 := ⟨by decide, by decide⟩
theorem al_277 : al 277 = 12 := by decide
theorem is_278 : Is 12 278 := ⟨by decide, by decide⟩
theorem al_278 : al 278 = 14 := by decide
theorem is_279 : Is 12 279 := ⟨by decide, by decide⟩
theorem al_279 : al 279 = 12 := by decide
theorem is_280 : Is 12 280 := ⟨by decide, by decide⟩
theorem al_280 : al 280 = 192 := by decide
theorem is_281 : Is 0 281 := ⟨by decide, by decide⟩
theorem is_283 : Is 1 283 := ⟨by decide, by decide⟩
theorem is_284 : Is 12 284 := ⟨by decide, by decide⟩
theorem al_284 : al 284 = 32 := by decide
theorem is_285 : Is 12 285 := ⟨by decide, by decide⟩
theorem al_285 : al 285 = 8 := by decide
theorem is_286 : Is 12 286 := ⟨by decide, by decide⟩
theorem al_286 : al 286 = 32 := by decide
theorem is_287 : Is 8 287 := ⟨by decide, by decide⟩
theorem is_288 : Is 12 288 := ⟨by decide, by decide⟩
theorem al_288 : al 288 = 12 := by decide
theorem is_289 : Is 12 289 := ⟨by decide, by decide⟩
theorem al_289 : al 289 = 12 := by decide
theorem is_290 : Is 12 290 := ⟨by decide, by decide⟩
theorem al_290 : al 290 = 6 := by decide
theorem is_291 : Is 12 291 := ⟨by decide, by decide⟩
theorem al_291 : al 291 = 729 := by decide
theorem is_292 : Is 12 292 := ⟨by decide, by decide⟩
theorem al_292 : al 292 = 729 := by decide
theorem is_293 : Is 12 293 := ⟨by decide, by decide⟩
theorem al_293 : al 293 = 729 := by decide
theorem is_294 : Is 7 294 := ⟨by decide, by decide⟩
theorem is_295 : Is 5 295 := ⟨by decide, by decide⟩
theorem is_296 : Is 9 296 := ⟨by decide, by decide⟩
theorem is_297 : Is 12 297 := ⟨by decide, by decide⟩
theorem al_297 : al 297 = 4 := by decide
theorem is_362 : Is 11 362 := ⟨by decide, by decide⟩
theorem is_363 : Is 12 363 := ⟨by decide, by decide⟩
theorem al_363 : al 363 = 3 := by decide
theorem is_364 : Is 12 364 := ⟨by decide, by decide⟩
theorem al_364 : al 364 = 12 := by decide
theorem is_365 : Is 12 365 := ⟨by decide, by decide⟩
theorem al_365 : al 365 = 36 := by decide
theorem is_366 : Is 12 366 := ⟨by decide, by decide⟩
theorem al_366 : al 366 = 144 := by decide
theorem is_367 : Is 12 367 := ⟨by decide, by decide⟩
theorem al_367 : al 367 = 12 := by decide
theorem is_368 : Is 12 368 := ⟨by decide, by decide⟩
theorem al_368 : al 368 = 108 := by decide
theorem is_369 : Is 12 369 := ⟨by decide, by decide⟩
theorem al_369 : al 369 = 12 := by decide
theorem is_370 : Is 12 370 := ⟨by decide, by decide⟩
theorem al_370 : al 370 = 12 := by decide
theorem is_371 : Is 12 371 := ⟨by decide, by decide⟩
theorem al_371 : al 371 = 4096 := by decide
theorem is_372 : Is 12 372 := ⟨by decide, by decide⟩
theorem al_372 : al 372 = 4096 := by decide
theorem is_373 : Is 12 373 := ⟨by decide, by decide⟩
theorem al_373 : al 373 = 200 := by decide
theorem is_374 : Is 12 374 := ⟨by decide, by decide⟩
theorem al_374 : al 374 = 64 := by decide
theorem is_375 : Is 12 375 := ⟨by decide, by decide⟩
theorem al_375 : al 375 = 73 := by decide
theorem is_376 : Is 12 376 := ⟨by decide, by decide⟩
theorem al_376 : al 376 = 1168 := by decide
theorem is_377 : Is 12 377 := ⟨by decide, by decide⟩
theorem al_377 : al 377 = 73 := by decide
theorem is_378 : Is 12 378 := ⟨by decide, by decide⟩
theorem al_378 : al 378 = 12 := by decide
theorem is_379 : Is 12 379 := ⟨by decide, by decide⟩
theorem al_379 : al 379 = 36 := by decide
theorem is_380 : Is 12 380 := ⟨by decide, by decide⟩
theorem al_380 : al 380 = 144 := by decide
theorem is_381 : Is 12 381 := ⟨by decide, by decide⟩
theorem al_381 : al 381 = 12 := by decide
theorem is_382 : Is 12 382 := ⟨by decide, by decide⟩
theorem al_382 : al 382 = 108 := by decide
theorem is_383 : Is 12 383 := ⟨by decide, by decide⟩
theorem al_383 : al 383 = 32 := by decide
theorem is_384 : Is 12 384 := ⟨by decide, by decide⟩
theorem al_384 : al 384 = 4 := by decide
