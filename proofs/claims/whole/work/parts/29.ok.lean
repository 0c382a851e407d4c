abbrev gX11_begins (K : Kt) (X : Xt) := GE (R := Unit) K rmX11_begins X cX11_begins 2 RX11 none (finM K X ιV 0 0)
set_option maxHeartbeats 4000000 in
set_option maxRecDepth 100000 in
theorem okX11_begins (l : Launch) (X : Xt) (m0 : Mem) (a1 : Int32) : Ct l yX11_begins cX11_begins 2 none rmX11_begins ιV X [.ref (xad X 362), .int a1] m0 (fX11_begins m0 a1) := by
  refine ct_of (own := RX11) (ls := [(0, .ref (xad X 362)), (1, .int a1)]) (by decide) rfl rfl (Nat.le_of_ble_eq_true rfl) (fun K => ?_)
  show gX11_begins K X 0 0 0 [(0, .ref (xad X 362)), (1, .int a1)] [] m0 (fX11_begins m0 a1)
  delta fX11_begins
  refine ge_aload_n 0 DX11_begins_0 rfl ?_
  refine ge_iload_n 1 DX11_begins_1 rfl ?_
  refine ge_put DX11_begins_2 fp_X11_319 is_362 (by decide) rfl (fun m1 => ?_)
  refine ge_aload_n 0 DX11_begins_5 rfl ?_
  refine ge_iconst (v := (0 : Int32)) DX11_begins_6 rfl ?_
  refine ge_put DX11_begins_7 fp_X11_322 is_362 (by decide) rfl (fun m2 => ?_)
  exact ge_vret rfl DX11_begins_10
abbrev gX11_keeps (K : Kt) (X : Xt) := GE (R := Unit) K rmX11_keeps X cX11_keeps 3 RX11 none (finM K X ιV 0 0)
set_option maxHeartbeats 4000000 in
set_option maxRecDepth 100000 in
theorem lX11_keeps_L10 (K : Kt) (X : Xt) {k35 : Mem → Option (Unit × Mem)} (y5 : Int32)  (hk35 : ∀ (m7 : Mem), gX11_keeps K X 0 0 35 [(0, .ref (xad X 362)), (1, .int y5)] [] m7 (k35 m7)) :
    ∀ (n : Nat) (m4 : Mem) (x6 : Int32), gX11_keeps K X 0 0 10 [(0, .ref (xad X 362)), (1, .int y5), (2, .int x6)] [] m4 (fX11_keeps_L10 k35 y5 n m4 x6) := by
  intro n
  induction n with
  | zero => intro m4 x6; exact ge_none
  | succ n ih =>
    intro m4 x6
    show gX11_keeps K X 0 0 10 [(0, .ref (xad X 362)), (1, .int y5), (2, .int x6)] [] m4 (fX11_keeps_L10_b k35 y5 (fX11_keeps_L10 k35 y5 n) m4 x6)
    delta fX11_keeps_L10_b
    refine ge_iload_n 2 DX11_keeps_10 rfl ?_
    refine ge_iconst (v := (3 : Int32)) DX11_keeps_11 rfl ?_
    refine ge_icmp_ge (tgt := 35) DX11_keeps_12 (by decide) ?_ ?_
    · refine ge_aload_n 0 DX11_keeps_15 rfl ?_
      refine ge_getR (i := 384) DX11_keeps_16 fl_X11_73 is_362 (by decide) rfl ?_
      refine ge_iload_n 2 DX11_keeps_19 rfl ?_
      refine ge_aload_n 0 DX11_keeps_20 rfl ?_
      refine ge_getR (i := 384) DX11_keeps_21 fl_X11_73 is_362 (by decide) rfl ?_
      refine ge_iload_n 2 DX11_keeps_24 rfl ?_
      refine ge_iconst (v := (1 : Int32)) DX11_keeps_25 rfl ?_
      refine ge_iadd DX11_keeps_26 ?_
      refine ge_iald DX11_keeps_27 is_384 al_384 ?_
      refine ge_iast DX11_keeps_28 is_384 al_384 (fun m10 => ?_)
      refine ge_iinc 2 (v := (x6 + (1 : Int32))) (ls' := [(2, .int (x6 + (1 : Int32))), (0, .ref (xad X 362)), (1, .int y5)]) DX11_keeps_29 rfl rfl (by decide) rfl ?_
      refine ge_goto (tgt := 10) DX11_keeps_32 (by decide) ?_
      refine ge_sub [1, 2, 0] rfl ?_
      exact ih m10 (x6 + (1 : Int32))
    · refine ge_sub [0, 1] rfl ?_
      exact hk35 m4
set_option maxHeartbeats 4000000 in
set_option maxRecDepth 100000 in
theorem okX11_keeps (l : Launch) (X : Xt) (m0 : Mem) (a1 : Int32) : Ct l yX11_keeps cX11_keeps 3 none rmX11_keeps ιV X [.ref (xad X 362), .int a1] m0 (fX11_keeps m0 a1) := by
  refine ct_of (own := RX11) (ls := [(0, .ref (xad X 362)), (1, .int a1)]) (by decide) rfl rfl (Nat.le_of_ble_eq_true rfl) (fun K => ?_)
  show gX11_keeps K X 0 0 0 [(0, .ref (xad X 362)), (1, .int a1)] [] m0 (fX11_keeps m0 a1)
  delta fX11_keeps
  refine ge_aload_n 0 DX11_keeps_0 rfl ?_
  refine ge_getI DX11_keeps_1 fl_X11_322 is_362 (by decide) rfl ?_
  refine ge_iconst (v := (4 : Int32)) DX11_keeps_4 rfl ?_
  refine ge_jn (P := fun k => ∀ (m1 : Mem), gX11_keeps K X 0 0 45 [(0, .ref (xad X 362)), (1, .int a1)] [] m1 (k m1)) (fun m1 => ?_) (fun j45 hj45 => ?_)
  · refine ge_aload_n 0 DX11_keeps_45 rfl ?_
    refine ge_getR (i := 384) DX11_keeps_46 fl_X11_73 is_362 (by decide) rfl ?_
    refine ge_aload_n 0 DX11_keeps_49 rfl ?_
    refine ge_getI DX11_keeps_50 fl_X11_322 is_362 (by decide) rfl ?_
    refine ge_iload_n 1 DX11_keeps_53 rfl ?_
    refine ge_iast DX11_keeps_54 is_384 al_384 (fun m2 => ?_)
    refine ge_aload_n 0 DX11_keeps_55 rfl ?_
    refine ge_dup DX11_keeps_56 rfl ?_
    refine ge_getI DX11_keeps_57 fl_X11_322 is_362 (by decide) rfl ?_
    refine ge_iconst (v := (1 : Int32)) DX11_keeps_60 rfl ?_
    refine ge_iadd DX11_keeps_61 ?_
    refine ge_put DX11_keeps_62 fp_X11_322 is_362 (by decide) rfl (fun m3 => ?_)
    exact ge_vret rfl DX11_keeps_65
  refine ge_icmp_ne (tgt := 45) DX11_keeps_5 (by decide) ?_ ?_
  · refine ge_iconst (v := (0 : Int32)) DX11_keeps_8 rfl ?_
    refine ge_istore_n (ls' := [(2, .int (0 : Int32)), (0, .ref (xad X 362)), (1, .int a1)]) DX11_keeps_9 (by decide) rfl ?_
    refine ge_sub [1, 2, 0] rfl ?_
    refine lX11_keeps_L10 K X a1 (fun m8 => ?_) 5000 m0 (0 : Int32)
    · refine ge_aload_n 0 DX11_keeps_35 rfl ?_
      refine ge_dup DX11_keeps_36 rfl ?_
      refine ge_getI DX11_keeps_37 fl_X11_322 is_362 (by decide) rfl ?_
      refine ge_iconst (v := (1 : Int32)) DX11_keeps_40 rfl ?_
      refine ge_isub DX11_keeps_41 ?_
      refine ge_put DX11_keeps_42 fp_X11_322 is_362 (by decide) rfl (fun m9 => ?_)
      exact hj45 m9
  · exact hj45 m0
abbrev gX11_steps (K : Kt) (X : Xt) := GE (R := Int32) K rmX11_steps X cX11_steps 5 RX11 (some .boolean) (finM K X ιI 2 24)
set_option maxHeartbeats 4000000 in
set_option maxRecDepth 100000 in
theorem okX11_steps (l : Launch) (X : Xt) (hX : xn X = 385) (m0 : Mem) : Ct l yX11_steps cX11_steps 5 (some .boolean) rmX11_steps ιI X [.ref (xad X 362)] m0 (fX11_steps m0) := by
  refine ct_of (own := RX11) (ls := [(0, .ref (xad X 362))]) (by decide) rfl rfl (Nat.le_of_ble_eq_true rfl) (fun K => ?_)
  show gX11_steps K X 0 0 0 [(0, .ref (xad X 362))] [] m0 (fX11_steps m0)
  delta fX11_steps
  refine ge_aload_n 0 DX11_steps_0 rfl ?_
  refine ge_getR (i := 375) DX11_steps_1 fl_X11_46 is_362 (by decide) rfl ?_
  refine ge_bipush (v := (8 : Int32)) DX11_steps_4 rfl ?_
  refine ge_aload_n 0 DX11_steps_6 rfl ?_
  refine ge_getI DX11_steps_7 fl_X11_319 is_362 (by decide) rfl ?_
  refine ge_iadd DX11_steps_10 ?_
  refine ge_iald DX11_steps_11 is_375 al_375 ?_
  refine ge_topi (fun x1 => ?_)
  refine ge_istore_n (ls' := [(1, .int x1), (0, .ref (xad X 362))]) DX11_steps_12 (by decide) rfl ?_
  refine ge_aload_n 1 DX11_steps_13 rfl ?_
  refine ge_iload_n 0 DX11_steps_14 rfl ?_
  refine ge_callViA (st := []) cm_X11_232 DX11_steps_15 is_362 rfl (okX11_meant (kl K) X hX m0 x1) rfl rfl (Nat.le_of_ble_eq_true rfl) (by decide) (dc := 1) (ds := 12) ⟨rfl, rfl⟩ ⟨by show _ + 1 ≤ (2 : Nat); omega, by show _ + 12 ≤ (24 : Nat); omega⟩ (fun r3 m2 => ?_)
  refine ge_istore_n (ls' := [(2, .int r3), (1, .int x1), (0, .ref (xad X 362))]) DX11_steps_18 (by decide) rfl ?_
  refine ge_iload_n 0 DX11_steps_19 rfl ?_
  refine ge_if_lt (tgt := 40) DX11_steps_20 (by decide) ?_ ?_
  · refine ge_iconst (v := (0 : Int32)) DX11_steps_40 rfl ?_
    refine ge_widen (cells' := 2) (slots' := 24) (by omega) (by omega) ?_
    exact ge_zretc rfl rfl DX11_steps_41
  · refine ge_aload_n 2 DX11_steps_23 rfl ?_
    refine ge_getR (i := 364) DX11_steps_24 fl_X11_13 is_362 (by decide) rfl ?_
    refine ge_iload_n 0 DX11_steps_27 rfl ?_
    refine ge_iald DX11_steps_28 is_364 al_364 ?_
    refine ge_iconst (v := (5 : Int32)) DX11_steps_29 rfl ?_
    refine ge_jn (P := fun k => gX11_steps K X (0 + 1) (0 + 12) 42 [(0, .ref (xad X 362)), (1, .int x1), (2, .int r3)] [] m2 k) ?_ (fun j42 hj42 => ?_)
    · refine ge_aload_n 0 DX11_steps_42 rfl ?_
      refine ge_iload_n 1 DX11_steps_43 rfl ?_
      refine ge_callViA (st := []) cm_X11_316 DX11_steps_44 is_362 rfl (okX11_firstOf (kl K) X hX m2 x1) rfl rfl (Nat.le_of_ble_eq_true rfl) (by decide) (dc := 1) (ds := 12) ⟨rfl, rfl⟩ ⟨by show _ + 1 ≤ (2 : Nat); omega, by show _ + 12 ≤ (24 : Nat); omega⟩ (fun r5 m4 => ?_)
      refine ge_istore_n (ls' := [(3, .int r5), (0, .ref (xad X 362)), (1, .int x1), (2, .int r3)]) DX11_steps_47 (by decide) rfl ?_
      refine ge_aload_n 1 DX11_steps_48 rfl ?_
      refine ge_getR (i := 364) DX11_steps_49 fl_X11_13 is_362 (by decide) rfl ?_
      refine ge_iload_n 3 DX11_steps_52 rfl ?_
      refine ge_iald DX11_steps_53 is_364 al_364 ?_
      refine ge_topi (fun x6 => ?_)
      refine ge_istore (ls' := [(4, .int x6), (3, .int r5), (0, .ref (xad X 362)), (1, .int x1), (2, .int r3)]) DX11_steps_54 (by decide) rfl ?_
      refine ge_iload 0 DX11_steps_56 rfl ?_
      refine ge_iconst (v := (5 : Int32)) DX11_steps_58 rfl ?_
      refine ge_icmp_ne (tgt := 88) DX11_steps_59 (by decide) ?_ ?_
      · refine ge_aload_n 2 DX11_steps_62 rfl ?_
        refine ge_dup DX11_steps_63 rfl ?_
        refine ge_getI DX11_steps_64 fl_X11_322 is_362 (by decide) rfl ?_
        refine ge_iconst (v := (1 : Int32)) DX11_steps_67 rfl ?_
        refine ge_isub DX11_steps_68 ?_
        refine ge_put DX11_steps_69 fp_X11_322 is_362 (by decide) rfl (fun m7 => ?_)
        refine ge_aload_n 2 DX11_steps_72 rfl ?_
        refine ge_aload_n 2 DX11_steps_73 rfl ?_
        refine ge_getR (i := 384) DX11_steps_74 fl_X11_73 is_362 (by decide) rfl ?_
        refine ge_aload_n 2 DX11_steps_77 rfl ?_
        refine ge_getI DX11_steps_78 fl_X11_322 is_362 (by decide) rfl ?_
        refine ge_iald DX11_steps_81 is_384 al_384 ?_
        refine ge_put DX11_steps_82 fp_X11_319 is_362 (by decide) rfl (fun m8 => ?_)
        refine ge_goto (tgt := 161) DX11_steps_85 (by decide) ?_
        refine ge_iconst (v := (1 : Int32)) DX11_steps_161 rfl ?_
        refine ge_widen (cells' := 2) (slots' := 24) (by omega) (by omega) ?_
        exact ge_zretc rfl rfl DX11_steps_162
      · refine ge_iload 0 DX11_steps_88 rfl ?_
        refine ge_iconst (v := (1 : Int32)) DX11_steps_90 rfl ?_
        refine ge_jn (P := fun k => gX11_steps K X ((0 + 1) + 1) ((0 + 12) + 12) 113 [(0, .ref (xad X 362)), (3, .int r5), (4, .int x6)] [] m4 k) ?_ (fun j113 hj113 => ?_)
        · refine ge_iload 2 DX11_steps_113 rfl ?_
          refine ge_iconst (v := (1 : Int32)) DX11_steps_115 rfl ?_
          refine ge_jn (P := fun k => ∀ (m9 : Mem), gX11_steps K X ((0 + 1) + 1) ((0 + 12) + 12) 132 [(0, .ref (xad X 362)), (3, .int r5)] [] m9 (k m9)) (fun m9 => ?_) (fun j132 hj132 => ?_)
          · refine ge_aload_n 0 DX11_steps_132 rfl ?_
            refine ge_aload_n 0 DX11_steps_133 rfl ?_
            refine ge_getI DX11_steps_134 fl_X11_319 is_362 (by decide) rfl ?_
            refine ge_iload_n 1 DX11_steps_137 rfl ?_
            refine ge_iadd DX11_steps_138 ?_
            refine ge_callSi0 (st := [.ref (xad X 362)]) cm_X11_325 DX11_steps_139 (okX11_round (kl K) X m9 ((m9 362 36) + r5)) rfl rfl (Nat.le_of_ble_eq_true rfl) (by decide) ⟨rfl, rfl⟩ ⟨by show _ ≤ (2 : Nat); omega, by show _ ≤ (24 : Nat); omega⟩ (fun r11 m10 => ?_)
            refine ge_put DX11_steps_142 fp_X11_319 is_362 (by decide) rfl (fun m12 => ?_)
            refine ge_goto (tgt := 161) DX11_steps_145 (by decide) ?_
            refine ge_iconst (v := (1 : Int32)) DX11_steps_161 rfl ?_
            refine ge_widen (cells' := 2) (slots' := 24) (by omega) (by omega) ?_
            exact ge_zretc rfl rfl DX11_steps_162
          refine ge_icmp_eq (tgt := 132) DX11_steps_116 (by decide) ?_ ?_
          · refine ge_widen (cells' := ((0 + 1) + 1)) (slots' := ((0 + 12) + 12)) (by omega) (by omega) ?_
            refine ge_sub [0, 1] rfl ?_
            exact hj132 m4
          · refine ge_aload_n 0 DX11_steps_119 rfl ?_
            refine ge_aload_n 0 DX11_steps_120 rfl ?_
            refine ge_getI DX11_steps_121 fl_X11_319 is_362 (by decide) rfl ?_
            refine ge_iconst (v := (1 : Int32)) DX11_steps_124 rfl ?_
            refine ge_iadd DX11_steps_125 ?_
            refine ge_callSi0 (st := [.ref (xad X 362)]) cm_X11_325 DX11_steps_126 (okX11_round (kl K) X m4 ((m4 362 36) + (1 : Int32))) rfl rfl (Nat.le_of_ble_eq_true rfl) (by decide) ⟨rfl, rfl⟩ ⟨by show _ ≤ (2 : Nat); omega, by show _ ≤ (24 : Nat); omega⟩ (fun r14 m13 => ?_)
            refine ge_callVv0 (st := []) cm_X11_328 DX11_steps_129 is_362 rfl (okX11_keeps (kl K) X m13 r14) rfl rfl (Nat.le_of_ble_eq_true rfl) (by decide) ⟨rfl, rfl⟩ ⟨by show _ ≤ (2 : Nat); omega, by show _ ≤ (24 : Nat); omega⟩ (fun m15 => ?_)
            refine ge_widen (cells' := ((0 + 1) + 1)) (slots' := ((0 + 12) + 12)) (by omega) (by omega) ?_
            refine ge_sub [0, 1] rfl ?_
            exact hj132 m15
        refine ge_icmp_eq (tgt := 113) DX11_steps_91 (by decide) ?_ ?_
        · refine ge_sub [2, 1, 0] rfl ?_
          exact hj113
        · refine ge_iload 0 DX11_steps_94 rfl ?_
          refine ge_iconst (v := (3 : Int32)) DX11_steps_96 rfl ?_
          refine ge_icmp_eq (tgt := 113) DX11_steps_97 (by decide) ?_ ?_
          · refine ge_sub [2, 1, 0] rfl ?_
            exact hj113
          · refine ge_iload 0 DX11_steps_100 rfl ?_
            refine ge_bipush (v := (6 : Int32)) DX11_steps_102 rfl ?_
            refine ge_jn (P := fun k => gX11_steps K X ((0 + 1) + 1) ((0 + 12) + 12) 148 [(0, .ref (xad X 362))] [] m4 k) ?_ (fun j148 hj148 => ?_)
            · refine ge_aload_n 0 DX11_steps_148 rfl ?_
              refine ge_aload_n 0 DX11_steps_149 rfl ?_
              refine ge_getI DX11_steps_150 fl_X11_319 is_362 (by decide) rfl ?_
              refine ge_iconst (v := (1 : Int32)) DX11_steps_153 rfl ?_
              refine ge_iadd DX11_steps_154 ?_
              refine ge_callSi0 (st := [.ref (xad X 362)]) cm_X11_325 DX11_steps_155 (okX11_round (kl K) X m4 ((m4 362 36) + (1 : Int32))) rfl rfl (Nat.le_of_ble_eq_true rfl) (by decide) ⟨rfl, rfl⟩ ⟨by show _ ≤ (2 : Nat); omega, by show _ ≤ (24 : Nat); omega⟩ (fun r17 m16 => ?_)
              refine ge_put DX11_steps_158 fp_X11_319 is_362 (by decide) rfl (fun m18 => ?_)
              refine ge_iconst (v := (1 : Int32)) DX11_steps_161 rfl ?_
              refine ge_widen (cells' := 2) (slots' := 24) (by omega) (by omega) ?_
              exact ge_zretc rfl rfl DX11_steps_162
            refine ge_icmp_ne (tgt := 148) DX11_steps_104 (by decide) ?_ ?_
            · refine ge_iload_n 1 DX11_steps_107 rfl ?_
              refine ge_iconst (v := (2 : Int32)) DX11_steps_108 rfl ?_
              refine ge_iremc DX11_steps_109 rfl ?_
              refine ge_if_ne (tgt := 148) DX11_steps_110 (by decide) ?_ ?_
              · refine ge_sub [2, 1, 0] rfl ?_
                exact hj113
              · refine ge_sub [2] rfl ?_
                exact hj148
            · refine ge_sub [2] rfl ?_
              exact hj148
    refine ge_icmp_ne (tgt := 42) DX11_steps_30 (by decide) ?_ ?_
    · refine ge_aload_n 2 DX11_steps_33 rfl ?_
      refine ge_getI DX11_steps_34 fl_X11_322 is_362 (by decide) rfl ?_
      refine ge_if_ne (tgt := 42) DX11_steps_37 (by decide) ?_ ?_
      · refine ge_iconst (v := (0 : Int32)) DX11_steps_40 rfl ?_
        refine ge_widen (cells' := 2) (slots' := 24) (by omega) (by omega) ?_
        exact ge_zretc rfl rfl DX11_steps_41
      · refine ge_sub [2, 1, 0] rfl ?_
        exact hj42
    · refine ge_sub [2, 1, 0] rfl ?_
      exact hj42
abbrev gX11_walk (K : Kt) (X : Xt) := GE (R := Int32) K rmX11_walk X cX11_walk 9 RX11 (some .int) (finM K X ιI 804 9648)
set_option maxHeartbeats 4000000 in
set_option maxRecDepth 100000 in
theorem lX11_walk_L56 (K : Kt) (X : Xt) (hX : xn X = 385) (cE sE : Nat) {k143 : Mem → Int32 → Int32 → Int32 → Option (Int32 × Mem)} (y12 : Int32) (y13 : Int32)  (hk143 : ∀ (m18 : Mem) (x19 : Int32) (x20 : Int32) (x21 : Int32), gX11_walk K X cE sE 143 [(0, .ref (xad X 362)), (3, .int y13), (4, .int x19), (5, .int x20), (6, .int x21)] [] m18 (k143 m18 x19 x20 x21)) (hcE : cE ≤ 804) (hsE : sE ≤ 9648) :
    ∀ (n c0 s0 : Nat), c0 + n * 4 ≤ cE → s0 + n * 48 ≤ sE → ∀ (m11 : Mem) (x14 : Int32) (x15 : Int32) (x16 : Int32) (x17 : Int32), gX11_walk K X c0 s0 56 [(0, .ref (xad X 362)), (2, .int y12), (3, .int y13), (4, .int x14), (5, .int x15), (6, .int x16), (7, .int x17)] [] m11 (fX11_walk_L56 k143 y12 y13 n m11 x14 x15 x16 x17) := by
  intro n
  induction n with
  | zero => intro c0 s0 h1 h2 m11 x14 x15 x16 x17; exact ge_none
  | succ n ih =>
    intro c0 s0 h1 h2 m11 x14 x15 x16 x17
    show gX11_walk K X c0 s0 56 [(0, .ref (xad X 362)), (2, .int y12), (3, .int y13), (4, .int x14), (5, .int x15), (6, .int x16), (7, .int x17)] [] m11 (fX11_walk_L56_b k143 y12 y13 (fX11_walk_L56 k143 y12 y13 n) m11 x14 x15 x16 x17)
    delta fX11_walk_L56_b
    refine ge_iload 6 DX11_walk_56 rfl ?_
    refine ge_if_eq (tgt := 143) DX11_walk_58 (by decide) ?_ ?_
    · refine ge_widen (cells' := cE) (slots' := sE) (by omega) (by omega) ?_
      refine ge_sub [0, 2, 3, 4, 5] rfl ?_
      exact hk143 m11 x14 x15 x16
    · refine ge_iload 3 DX11_walk_61 rfl ?_
      refine ge_iload_n 1 DX11_walk_63 rfl ?_
      refine ge_icmp_ge (tgt := 143) DX11_walk_64 (by decide) ?_ ?_
      · refine ge_aload_n 0 DX11_walk_67 rfl ?_
        refine ge_getI DX11_walk_68 fl_X11_319 is_362 (by decide) rfl ?_
        refine ge_topi (fun x26 => ?_)
        refine ge_istore (ls' := [(8, .int x26), (0, .ref (xad X 362)), (2, .int y12), (3, .int y13), (4, .int x14), (5, .int x15), (6, .int x16), (7, .int x17)]) DX11_walk_71 (by decide) rfl ?_
        refine ge_aload_n 1 DX11_walk_73 rfl ?_
        refine ge_callViA (st := []) cm_X11_338 DX11_walk_74 is_362 rfl (okX11_steps (kl K) X hX m11) rfl rfl (Nat.le_of_ble_eq_true rfl) (by decide) (dc := 2) (ds := 24) ⟨rfl, rfl⟩ ⟨by show _ + 2 ≤ (804 : Nat); omega, by show _ + 24 ≤ (9648 : Nat); omega⟩ (fun r28 m27 => ?_)
        refine ge_istore (ls' := [(7, .int r28), (8, .int x26), (0, .ref (xad X 362)), (2, .int y12), (3, .int y13), (4, .int x14), (5, .int x15), (6, .int x16)]) DX11_walk_77 (by decide) rfl ?_
        refine ge_iload 5 DX11_walk_79 rfl ?_
        refine ge_iload 0 DX11_walk_81 rfl ?_
        refine ge_jn (P := fun k => ∀ (v29 : Int32), gX11_walk K X (c0 + 2) (s0 + 24) 91 [(0, .ref (xad X 362)), (2, .int y12), (3, .int y13), (5, .int x15), (6, .int x16), (7, .int r28), (8, .int x26)] [.int v29, .int x14] m27 (k v29)) (fun v29 => ?_) (fun j91 hj91 => ?_)
        · refine ge_iadd DX11_walk_91 ?_
          refine ge_topi (fun x30 => ?_)
          refine ge_istore (ls' := [(4, .int x30), (0, .ref (xad X 362)), (2, .int y12), (3, .int y13), (5, .int x15), (6, .int x16), (7, .int r28), (8, .int x26)]) DX11_walk_92 (by decide) rfl ?_
          refine ge_iload 4 DX11_walk_94 rfl ?_
          refine ge_iload 6 DX11_walk_96 rfl ?_
          refine ge_jn (P := fun k => ∀ (m31 : Mem) (v32 : Int32), gX11_walk K X ((c0 + 2) + 2) ((s0 + 24) + 24) 119 [(0, .ref (xad X 362)), (2, .int y12), (3, .int y13), (4, .int x30), (6, .int x16), (7, .int r28), (8, .int x26)] [.int v32, .int x15] m31 (k m31 v32)) (fun m31 v32 => ?_) (fun j119 hj119 => ?_)
          · refine ge_iadd DX11_walk_119 ?_
            refine ge_topi (fun x33 => ?_)
            refine ge_istore (ls' := [(5, .int x33), (0, .ref (xad X 362)), (2, .int y12), (3, .int y13), (4, .int x30), (6, .int x16), (7, .int r28), (8, .int x26)]) DX11_walk_120 (by decide) rfl ?_
            refine ge_iload 5 DX11_walk_122 rfl ?_
            refine ge_iload 6 DX11_walk_124 rfl ?_
            refine ge_jn (P := fun k => ∀ (v34 : Int32), gX11_walk K X ((c0 + 2) + 2) ((s0 + 24) + 24) 137 [(0, .ref (xad X 362)), (2, .int y12), (3, .int y13), (4, .int x30), (5, .int x33), (7, .int r28)] [.int v34, .int x16] m31 (k v34)) (fun v34 => ?_) (fun j137 hj137 => ?_)
            · refine ge_ior DX11_walk_137 ?_
              refine ge_topi (fun x35 => ?_)
              refine ge_istore (ls' := [(6, .int x35), (0, .ref (xad X 362)), (2, .int y12), (3, .int y13), (4, .int x30), (5, .int x33), (7, .int r28)]) DX11_walk_138 (by decide) rfl ?_
              refine ge_goto (tgt := 56) DX11_walk_140 (by decide) ?_
              refine ge_sub [1, 2, 3, 4, 5, 0, 6] rfl ?_
              exact ih _ _ (by omega) (by omega) m31 x30 x33 x35 r28
            refine ge_if_eq (tgt := 136) DX11_walk_126 (by decide) ?_ ?_
            · refine ge_iconst (v := (0 : Int32)) DX11_walk_136 rfl ?_
              refine ge_sub [1, 2, 3, 4, 0, 6] rfl ?_
              exact hj137 (0 : Int32)
            · refine ge_iconst (v := (1 : Int32)) DX11_walk_129 rfl ?_
              refine ge_iload 7 DX11_walk_130 rfl ?_
              refine ge_ishl DX11_walk_132 ?_
              refine ge_goto (tgt := 137) DX11_walk_133 (by decide) ?_
              refine ge_sub [1, 2, 3, 4, 0, 6] rfl ?_
              exact hj137 ((1 : Int32) <<< (x26 &&& 31))
          refine ge_if_eq (tgt := 118) DX11_walk_98 (by decide) ?_ ?_
          · refine ge_iconst (v := (0 : Int32)) DX11_walk_118 rfl ?_
            refine ge_widen (cells' := ((c0 + 2) + 2)) (slots' := ((s0 + 24) + 24)) (by omega) (by omega) ?_
            refine ge_sub [1, 2, 3, 0, 5, 6, 7] rfl ?_
            exact hj119 m27 (0 : Int32)
          · refine ge_aload_n 1 DX11_walk_101 rfl ?_
            refine ge_aload_n 1 DX11_walk_102 rfl ?_
            refine ge_getR (i := 375) DX11_walk_103 fl_X11_46 is_362 (by decide) rfl ?_
            refine ge_bipush (v := (8 : Int32)) DX11_walk_106 rfl ?_
            refine ge_iload 7 DX11_walk_108 rfl ?_
            refine ge_iadd DX11_walk_110 ?_
            refine ge_iald DX11_walk_111 is_375 al_375 ?_
            refine ge_callViA (st := [.int x15]) cm_X11_342 DX11_walk_112 is_362 rfl (okX11_costsOf (kl K) X hX m27 (m27 375 (ix ((8 : Int32) + x26)))) rfl rfl (Nat.le_of_ble_eq_true rfl) (by decide) (dc := 2) (ds := 24) ⟨rfl, rfl⟩ ⟨by show _ + 2 ≤ (804 : Nat); omega, by show _ + 24 ≤ (9648 : Nat); omega⟩ (fun r37 m36 => ?_)
            refine ge_goto (tgt := 119) DX11_walk_115 (by decide) ?_
            refine ge_widen (cells' := ((c0 + 2) + 2)) (slots' := ((s0 + 24) + 24)) (by omega) (by omega) ?_
            refine ge_sub [1, 2, 3, 0, 5, 6, 7] rfl ?_
            exact hj119 m36 r37
        refine ge_if_eq (tgt := 90) DX11_walk_83 (by decide) ?_ ?_
        · refine ge_iconst (v := (0 : Int32)) DX11_walk_90 rfl ?_
          refine ge_sub [2, 3, 4, 6, 7, 0, 1] rfl ?_
          exact hj91 (0 : Int32)
        · refine ge_iconst (v := (1 : Int32)) DX11_walk_86 rfl ?_
          refine ge_goto (tgt := 91) DX11_walk_87 (by decide) ?_
          refine ge_sub [2, 3, 4, 6, 7, 0, 1] rfl ?_
          exact hj91 (1 : Int32)
      · refine ge_widen (cells' := cE) (slots' := sE) (by omega) (by omega) ?_
        refine ge_sub [0, 2, 3, 4, 5] rfl ?_
        exact hk143 m11 x14 x15 x16
set_option maxHeartbeats 4000000 in
set_option maxRecDepth 100000 in
theorem okX11_walk (l : Launch) (X : Xt) (hX : xn X = 385) (m0 : Mem) (a1 : Int32) (a2 : Int32) (a3 : Int32) : Ct l yX11_walk cX11_walk 9 (some .int) rmX11_walk ιI X [.ref (xad X 362), .int a1, .int a2, .int a3] m0 (fX11_walk m0 a1 a2 a3) := by
  refine ct_of (own := RX11) (ls := [(0, .ref (xad X 362)), (1, .int a1), (2, .int a2), (3, .int a3)]) (by decide) rfl rfl (Nat.le_of_ble_eq_true rfl) (fun K => ?_)
  show gX11_walk K X 0 0 0 [(0, .ref (xad X 362)), (1, .int a1), (2, .int a2), (3, .int a3)] [] m0 (fX11_walk m0 a1 a2 a3)
  delta fX11_walk
  refine ge_iload_n 1 DX11_walk_0 rfl ?_
  refine ge_callSi0 (st := []) cm_X11_313 DX11_walk_1 (okX11_isCell (kl K) X m0 a1) rfl rfl (Nat.le_of_ble_eq_true rfl) (by decide) ⟨rfl, rfl⟩ ⟨by show _ ≤ (804 : Nat); omega, by show _ ≤ (9648 : Nat); omega⟩ (fun r2 m1 => ?_)
  refine ge_jn (P := fun k => ∀ (m3 : Mem), gX11_walk K X 0 0 31 [(0, .ref (xad X 362))] [] m3 (k m3)) (fun m3 => ?_) (fun j31 hj31 => ?_)
  · refine ge_aload_n 0 DX11_walk_31 rfl ?_
    refine ge_sipush (v := (-1001 : Int32)) DX11_walk_32 rfl ?_
    refine ge_callVi0 (st := []) cm_X11_145 DX11_walk_35 is_362 rfl (okX11_refuse (kl K) X m3 (-1001 : Int32)) rfl rfl (Nat.le_of_ble_eq_true rfl) (by decide) ⟨rfl, rfl⟩ ⟨by show _ ≤ (804 : Nat); omega, by show _ ≤ (9648 : Nat); omega⟩ (fun r5 m4 => ?_)
    refine ge_widen (cells' := 804) (slots' := 9648) (by omega) (by omega) ?_
    exact ge_iret rfl DX11_walk_38
  refine ge_if_eq (tgt := 31) DX11_walk_4 (by decide) ?_ ?_
  · refine ge_widen (cells' := 0) (slots' := 0) (by omega) (by omega) ?_
    refine ge_sub [0] rfl ?_
    exact hj31 m1
  · refine ge_iload_n 2 DX11_walk_7 rfl ?_
    refine ge_i2l DX11_walk_8 ?_
    refine ge_lconst (v := (0 : Int64)) DX11_walk_9 rfl ?_
    refine ge_ldc2 (v := (200 : Int64)) kw_X11_331 DX11_walk_10 ?_
    refine ge_callSi0 (st := []) cm_X11_89 DX11_walk_13 (okX11_isIn (kl K) X m1 ((a2).toInt64) (0 : Int64) (200 : Int64)) rfl rfl (Nat.le_of_ble_eq_true rfl) (by decide) ⟨rfl, rfl⟩ ⟨by show _ ≤ (804 : Nat); omega, by show _ ≤ (9648 : Nat); omega⟩ (fun r7 m6 => ?_)
    refine ge_if_eq (tgt := 31) DX11_walk_16 (by decide) ?_ ?_
    · refine ge_widen (cells' := 0) (slots' := 0) (by omega) (by omega) ?_
      refine ge_sub [0] rfl ?_
      exact hj31 m6
    · refine ge_iload_n 3 DX11_walk_19 rfl ?_
      refine ge_i2l DX11_walk_20 ?_
      refine ge_lconst (v := (0 : Int64)) DX11_walk_21 rfl ?_
      refine ge_ldc2 (v := (4 : Int64)) kw_X11_333 DX11_walk_22 ?_
      refine ge_callSi0 (st := []) cm_X11_89 DX11_walk_25 (okX11_isIn (kl K) X m6 ((a3).toInt64) (0 : Int64) (4 : Int64)) rfl rfl (Nat.le_of_ble_eq_true rfl) (by decide) ⟨rfl, rfl⟩ ⟨by show _ ≤ (804 : Nat); omega, by show _ ≤ (9648 : Nat); omega⟩ (fun r9 m8 => ?_)
      refine ge_if_ne (tgt := 39) DX11_walk_28 (by decide) ?_ ?_
      · refine ge_widen (cells' := 0) (slots' := 0) (by omega) (by omega) ?_
        refine ge_sub [0] rfl ?_
        exact hj31 m8
      · refine ge_aload_n 0 DX11_walk_39 rfl ?_
        refine ge_iload_n 1 DX11_walk_40 rfl ?_
        refine ge_callVv0 (st := []) cm_X11_335 DX11_walk_41 is_362 rfl (okX11_begins (kl K) X m8 a1) rfl rfl (Nat.le_of_ble_eq_true rfl) (by decide) ⟨rfl, rfl⟩ ⟨by show _ ≤ (804 : Nat); omega, by show _ ≤ (9648 : Nat); omega⟩ (fun m10 => ?_)
        refine ge_iconst (v := (0 : Int32)) DX11_walk_44 rfl ?_
        refine ge_istore (ls' := [(4, .int (0 : Int32)), (0, .ref (xad X 362)), (1, .int a1), (2, .int a2), (3, .int a3)]) DX11_walk_45 (by decide) rfl ?_
        refine ge_iconst (v := (0 : Int32)) DX11_walk_47 rfl ?_
        refine ge_istore (ls' := [(5, .int (0 : Int32)), (4, .int (0 : Int32)), (0, .ref (xad X 362)), (1, .int a1), (2, .int a2), (3, .int a3)]) DX11_walk_48 (by decide) rfl ?_
        refine ge_iconst (v := (0 : Int32)) DX11_walk_50 rfl ?_
        refine ge_istore (ls' := [(6, .int (0 : Int32)), (5, .int (0 : Int32)), (4, .int (0 : Int32)), (0, .ref (xad X 362)), (1, .int a1), (2, .int a2), (3, .int a3)]) DX11_walk_51 (by decide) rfl ?_
        refine ge_iconst (v := (1 : Int32)) DX11_walk_53 rfl ?_
        refine ge_istore (ls' := [(7, .int (1 : Int32)), (6, .int (0 : Int32)), (5, .int (0 : Int32)), (4, .int (0 : Int32)), (0, .ref (xad X 362)), (1, .int a1), (2, .int a2), (3, .int a3)]) DX11_walk_54 (by decide) rfl ?_
        refine ge_sub [4, 6, 7, 3, 2, 1, 0] rfl ?_
        refine lX11_walk_L56 K X hX ((0 + 201 * 4)) ((0 + 201 * 48)) a2 a3 (fun m22 x23 x24 x25 => ?_) (by omega) (by omega) 201 _ _ (by omega) (by omega) m10 (0 : Int32) (0 : Int32) (0 : Int32) (1 : Int32)
        · refine ge_iload_n 1 DX11_walk_143 rfl ?_
          refine ge_if_ne (tgt := 154) DX11_walk_144 (by decide) ?_ ?_
          · refine ge_aload_n 0 DX11_walk_147 rfl ?_
            refine ge_getI DX11_walk_148 fl_X11_319 is_362 (by decide) rfl ?_
            refine ge_goto (tgt := 188) DX11_walk_151 (by decide) ?_
            refine ge_widen (cells' := 804) (slots' := 9648) (by omega) (by omega) ?_
            exact ge_iret rfl DX11_walk_188
          · refine ge_iload_n 1 DX11_walk_154 rfl ?_
            refine ge_iconst (v := (1 : Int32)) DX11_walk_155 rfl ?_
            refine ge_icmp_ne (tgt := 164) DX11_walk_156 (by decide) ?_ ?_
            · refine ge_iload 2 DX11_walk_159 rfl ?_
              refine ge_goto (tgt := 188) DX11_walk_161 (by decide) ?_
              refine ge_widen (cells' := 804) (slots' := 9648) (by omega) (by omega) ?_
              exact ge_iret rfl DX11_walk_188
            · refine ge_iload_n 1 DX11_walk_164 rfl ?_
              refine ge_iconst (v := (2 : Int32)) DX11_walk_165 rfl ?_
              refine ge_icmp_ne (tgt := 174) DX11_walk_166 (by decide) ?_ ?_
              · refine ge_iload 3 DX11_walk_169 rfl ?_
                refine ge_goto (tgt := 188) DX11_walk_171 (by decide) ?_
                refine ge_widen (cells' := 804) (slots' := 9648) (by omega) (by omega) ?_
                exact ge_iret rfl DX11_walk_188
              · refine ge_iload_n 1 DX11_walk_174 rfl ?_
                refine ge_iconst (v := (3 : Int32)) DX11_walk_175 rfl ?_
                refine ge_icmp_ne (tgt := 186) DX11_walk_176 (by decide) ?_ ?_
                · refine ge_aload_n 0 DX11_walk_179 rfl ?_
                  refine ge_getI DX11_walk_180 fl_X11_322 is_362 (by decide) rfl ?_
                  refine ge_goto (tgt := 188) DX11_walk_183 (by decide) ?_
                  refine ge_widen (cells' := 804) (slots' := 9648) (by omega) (by omega) ?_
                  exact ge_iret rfl DX11_walk_188
                · refine ge_iload 4 DX11_walk_186 rfl ?_
                  refine ge_widen (cells' := 804) (slots' := 9648) (by omega) (by omega) ?_
                  exact ge_iret rfl DX11_walk_188
abbrev gX11_halts (K : Kt) (X : Xt) := GE (R := Int32) K rmX11_halts X cX11_halts 3 RX11 (some .int) (finM K X ιI 404 4848)
set_option maxHeartbeats 4000000 in
set_option maxRecDepth 100000 in
theorem lX11_halts_L22 (K : Kt) (X : Xt) (hX : xn X = 385) (cE sE : Nat) {k36 : Mem → Int32 → Option (Int32 × Mem)} {k44 : Mem → Option (Int32 × Mem)}   (hk36 : ∀ (m8 : Mem) (x9 : Int32), gX11_halts K X cE sE 36 [(2, .int x9)] [] m8 (k36 m8 x9)) (hk44 : ∀ (m12 : Mem), gX11_halts K X cE sE 44 [] [] m12 (k44 m12)) (hcE : cE ≤ 404) (hsE : sE ≤ 4848) :
    ∀ (n c0 s0 : Nat), c0 + n * 2 ≤ cE → s0 + n * 24 ≤ sE → ∀ (m6 : Mem) (x7 : Int32), gX11_halts K X c0 s0 22 [(0, .ref (xad X 362)), (2, .int x7)] [] m6 (fX11_halts_L22 k36 k44  n m6 x7) := by
  intro n
  induction n with
  | zero => intro c0 s0 h1 h2 m6 x7; exact ge_none
  | succ n ih =>
    intro c0 s0 h1 h2 m6 x7
    show gX11_halts K X c0 s0 22 [(0, .ref (xad X 362)), (2, .int x7)] [] m6 (fX11_halts_L22_b k36 k44  (fX11_halts_L22 k36 k44  n) m6 x7)
    delta fX11_halts_L22_b
    refine ge_iload_n 1 DX11_halts_22 rfl ?_
    refine ge_sipush (v := (200 : Int32)) DX11_halts_23 rfl ?_
    refine ge_icmp_gt (tgt := 44) DX11_halts_26 (by decide) ?_ ?_
    · refine ge_widen (cells' := cE) (slots' := sE) (by omega) (by omega) ?_
      refine ge_sub [] rfl ?_
      exact hk44 m6
    · refine ge_aload_n 0 DX11_halts_29 rfl ?_
      refine ge_callViA (st := []) cm_X11_338 DX11_halts_30 is_362 rfl (okX11_steps (kl K) X hX m6) rfl rfl (Nat.le_of_ble_eq_true rfl) (by decide) (dc := 2) (ds := 24) ⟨rfl, rfl⟩ ⟨by show _ + 2 ≤ (404 : Nat); omega, by show _ + 24 ≤ (4848 : Nat); omega⟩ (fun r15 m14 => ?_)
      refine ge_if_ne (tgt := 38) DX11_halts_33 (by decide) ?_ ?_
      · refine ge_widen (cells' := cE) (slots' := sE) (by omega) (by omega) ?_
        refine ge_sub [1] rfl ?_
        exact hk36 m14 x7
      · refine ge_iinc 1 (v := (x7 + (1 : Int32))) (ls' := [(2, .int (x7 + (1 : Int32))), (0, .ref (xad X 362))]) DX11_halts_38 rfl rfl (by decide) rfl ?_
        refine ge_goto (tgt := 22) DX11_halts_41 (by decide) ?_
        refine ge_sub [1, 0] rfl ?_
        exact ih _ _ (by omega) (by omega) m14 (x7 + (1 : Int32))
set_option maxHeartbeats 4000000 in
set_option maxRecDepth 100000 in
theorem okX11_halts (l : Launch) (X : Xt) (hX : xn X = 385) (m0 : Mem) (a1 : Int32) : Ct l yX11_halts cX11_halts 3 (some .int) rmX11_halts ιI X [.ref (xad X 362), .int a1] m0 (fX11_halts m0 a1) := by
  refine ct_of (own := RX11) (ls := [(0, .ref (xad X 362)), (1, .int a1)]) (by decide) rfl rfl (Nat.le_of_ble_eq_true rfl) (fun K => ?_)
  show gX11_halts K X 0 0 0 [(0, .ref (xad X 362)), (1, .int a1)] [] m0 (fX11_halts m0 a1)
  delta fX11_halts
  refine ge_iload_n 1 DX11_halts_0 rfl ?_
  refine ge_callSi0 (st := []) cm_X11_313 DX11_halts_1 (okX11_isCell (kl K) X m0 a1) rfl rfl (Nat.le_of_ble_eq_true rfl) (by decide) ⟨rfl, rfl⟩ ⟨by show _ ≤ (404 : Nat); omega, by show _ ≤ (4848 : Nat); omega⟩ (fun r2 m1 => ?_)
  refine ge_if_ne (tgt := 15) DX11_halts_4 (by decide) ?_ ?_
  · refine ge_aload_n 0 DX11_halts_7 rfl ?_
    refine ge_sipush (v := (-1001 : Int32)) DX11_halts_8 rfl ?_
    refine ge_callVi0 (st := []) cm_X11_145 DX11_halts_11 is_362 rfl (okX11_refuse (kl K) X m1 (-1001 : Int32)) rfl rfl (Nat.le_of_ble_eq_true rfl) (by decide) ⟨rfl, rfl⟩ ⟨by show _ ≤ (404 : Nat); omega, by show _ ≤ (4848 : Nat); omega⟩ (fun r4 m3 => ?_)
    refine ge_widen (cells' := 404) (slots' := 4848) (by omega) (by omega) ?_
    exact ge_iret rfl DX11_halts_14
  · refine ge_aload_n 0 DX11_halts_15 rfl ?_
    refine ge_iload_n 1 DX11_halts_16 rfl ?_
    refine ge_callVv0 (st := []) cm_X11_335 DX11_halts_17 is_362 rfl (okX11_begins (kl K) X m1 a1) rfl rfl (Nat.le_of_ble_eq_true rfl) (by decide) ⟨rfl, rfl⟩ ⟨by show _ ≤ (404 : Nat); omega, by show _ ≤ (4848 : Nat); omega⟩ (fun m5 => ?_)
    refine ge_iconst (v := (0 : Int32)) DX11_halts_20 rfl ?_
    refine ge_istore_n (ls' := [(2, .int (0 : Int32)), (0, .ref (xad X 362)), (1, .int a1)]) DX11_halts_21 (by decide) rfl ?_
    refine ge_sub [1, 0] rfl ?_
    refine lX11_halts_L22 K X hX ((0 + 202 * 2)) ((0 + 202 * 24))  (fun m10 x11 => ?_) (fun m13 => ?_) (by omega) (by omega) 202 _ _ (by omega) (by omega) m5 (0 : Int32)
    · refine ge_iload_n 0 DX11_halts_36 rfl ?_
      refine ge_widen (cells' := 404) (slots' := 4848) (by omega) (by omega) ?_
      exact ge_iret rfl DX11_halts_37
    · refine ge_iconst (v := (-1 : Int32)) DX11_halts_44 rfl ?_
      refine ge_widen (cells' := 404) (slots' := 4848) (by omega) (by omega) ?_
      exact ge_iret rfl DX11_halts_45
abbrev gX11_placeMet (K : Kt) (X : Xt) := GE (R := Int32) K rmX11_placeMet X cX11_placeMet 4 RX11 (some .int) (finM K X ιI 0 0)
set_option maxHeartbeats 4000000 in
set_option maxRecDepth 100000 in
theorem lX11_placeMet_L4 (K : Kt) (X : Xt) {k40 : Int32 → Option (Int32 × Mem)} (m1 : Mem) (y2 : Int32)  (hk40 : ∀ (x5 : Int32), gX11_placeMet K X 0 0 40 [(2, .int x5)] [] m1 (k40 x5)) :
    ∀ (n : Nat) (x3 : Int32) (x4 : Int32), gX11_placeMet K X 0 0 4 [(0, .ref (xad X 362)), (1, .int y2), (2, .int x3), (3, .int x4)] [] m1 (fX11_placeMet_L4 k40 m1 y2 n x3 x4) := by
  intro n
  induction n with
  | zero => intro x3 x4; exact ge_none
  | succ n ih =>
    intro x3 x4
    show gX11_placeMet K X 0 0 4 [(0, .ref (xad X 362)), (1, .int y2), (2, .int x3), (3, .int x4)] [] m1 (fX11_placeMet_L4_b k40 m1 y2 (fX11_placeMet_L4 k40 m1 y2 n) x3 x4)
    delta fX11_placeMet_L4_b
    refine ge_iload_n 3 DX11_placeMet_4 rfl ?_
    refine ge_aload_n 0 DX11_placeMet_5 rfl ?_
    refine ge_getR (i := 375) DX11_placeMet_6 fl_X11_46 is_362 (by decide) rfl ?_
    refine ge_bipush (v := (72 : Int32)) DX11_placeMet_9 rfl ?_
    refine ge_iald DX11_placeMet_11 is_375 al_375 ?_
    refine ge_icmp_ge (tgt := 40) DX11_placeMet_12 (by decide) ?_ ?_
    · refine ge_aload_n 0 DX11_placeMet_15 rfl ?_
      refine ge_getR (i := 375) DX11_placeMet_16 fl_X11_46 is_362 (by decide) rfl ?_
      refine ge_bipush (v := (40 : Int32)) DX11_placeMet_19 rfl ?_
      refine ge_iload_n 3 DX11_placeMet_21 rfl ?_
      refine ge_iadd DX11_placeMet_22 ?_
      refine ge_iald DX11_placeMet_23 is_375 al_375 ?_
      refine ge_iload_n 1 DX11_placeMet_24 rfl ?_
      refine ge_jn (P := fun k => ∀ (v7 : Int32), gX11_placeMet K X 0 0 33 [(0, .ref (xad X 362)), (1, .int y2), (3, .int x4)] [.int v7] m1 (k v7)) (fun v7 => ?_) (fun j33 hj33 => ?_)
      · refine ge_istore_n (ls' := [(2, .int v7), (0, .ref (xad X 362)), (1, .int y2), (3, .int x4)]) DX11_placeMet_33 (by decide) rfl ?_
        refine ge_iinc 3 (v := (x4 + (1 : Int32))) (ls' := [(3, .int (x4 + (1 : Int32))), (2, .int v7), (0, .ref (xad X 362)), (1, .int y2)]) DX11_placeMet_34 rfl rfl (by decide) rfl ?_
        refine ge_goto (tgt := 4) DX11_placeMet_37 (by decide) ?_
        refine ge_sub [2, 3, 1, 0] rfl ?_
        exact ih v7 (x4 + (1 : Int32))
      refine ge_icmp_ne (tgt := 32) DX11_placeMet_25 (by decide) ?_ ?_
      · refine ge_iload_n 3 DX11_placeMet_28 rfl ?_
        refine ge_goto (tgt := 33) DX11_placeMet_29 (by decide) ?_
        refine ge_sub [0, 1, 3] rfl ?_
        exact hj33 x4
      · refine ge_iload_n 2 DX11_placeMet_32 rfl ?_
        refine ge_sub [0, 1, 3] rfl ?_
        exact hj33 x3
    · refine ge_sub [2] rfl ?_
      exact hk40 x3
set_option maxHeartbeats 4000000 in
set_option maxRecDepth 100000 in
theorem okX11_placeMet (l : Launch) (X : Xt) (m0 : Mem) (a1 : Int32) : Ct l yX11_placeMet cX11_placeMet 4 (some .int) rmX11_placeMet ιI X [.ref (xad X 362), .int a1] m0 (fX11_placeMet m0 a1) := by
  refine ct_of (own := RX11) (ls := [(0, .ref (xad X 362)), (1, .int a1)]) (by decide) rfl rfl (Nat.le_of_ble_eq_true rfl) (fun K => ?_)
  show gX11_placeMet K X 0 0 0 [(0, .ref (xad X 362)), (1, .int a1)] [] m0 (fX11_placeMet m0 a1)
  delta fX11_placeMet
  refine ge_iconst (v := (-1 : Int32)) DX11_placeMet_0 rfl ?_
  refine ge_istore_n (ls' := [(2, .int (-1 : Int32)), (0, .ref (xad X 362)), (1, .int a1)]) DX11_placeMet_1 (by decide) rfl ?_
  refine ge_iconst (v := (0 : Int32)) DX11_placeMet_2 rfl ?_
  refine ge_istore_n (ls' := [(3, .int (0 : Int32)), (2, .int (-1 : Int32)), (0, .ref (xad X 362)), (1, .int a1)]) DX11_placeMet_3 (by decide) rfl ?_
  refine ge_sub [2, 3, 1, 0] rfl ?_
  refine lX11_placeMet_L4 K X m0 a1 (fun x6 => ?_) 5000 (-1 : Int32) (0 : Int32)
  · refine ge_iload_n 0 DX11_placeMet_40 rfl ?_
    exact ge_iret rfl DX11_placeMet_41
abbrev gX11_meets (K : Kt) (X : Xt) := GE (R := Unit) K rmX11_meets X cX11_meets 3 RX11 none (finM K X ιV 0 0)
set_option maxHeartbeats 4000000 in
set_option maxRecDepth 100000 in
theorem lX11_meets_L23 (K : Kt) (X : Xt) {k55 : Mem → Option (Unit × Mem)} (y7 : Int32)  (hk55 : ∀ (m9 : Mem), gX11_meets K X 0 0 55 [(0, .ref (xad X 362)), (1, .int y7)] [] m9 (k55 m9)) :
    ∀ (n : Nat) (m6 : Mem) (x8 : Int32), gX11_meets K X 0 0 23 [(0, .ref (xad X 362)), (1, .int y7), (2, .int x8)] [] m6 (fX11_meets_L23 k55 y7 n m6 x8) := by
  intro n
  induction n with
  | zero => intro m6 x8; exact ge_none
  | succ n ih =>
    intro m6 x8
    show gX11_meets K X 0 0 23 [(0, .ref (xad X 362)), (1, .int y7), (2, .int x8)] [] m6 (fX11_meets_L23_b k55 y7 (fX11_meets_L23 k55 y7 n) m6 x8)
    delta fX11_meets_L23_b
    refine ge_iload_n 2 DX11_meets_23 rfl ?_
    refine ge_bipush (v := (31 : Int32)) DX11_meets_24 rfl ?_
    refine ge_icmp_ge (tgt := 55) DX11_meets_26 (by decide) ?_ ?_
    · refine ge_aload_n 0 DX11_meets_29 rfl ?_
      refine ge_getR (i := 375) DX11_meets_30 fl_X11_46 is_362 (by decide) rfl ?_
      refine ge_bipush (v := (40 : Int32)) DX11_meets_33 rfl ?_
      refine ge_iload_n 2 DX11_meets_35 rfl ?_
      refine ge_iadd DX11_meets_36 ?_
      refine ge_aload_n 0 DX11_meets_37 rfl ?_
      refine ge_getR (i := 375) DX11_meets_38 fl_X11_46 is_362 (by decide) rfl ?_
      refine ge_bipush (v := (40 : Int32)) DX11_meets_41 rfl ?_
      refine ge_iload_n 2 DX11_meets_43 rfl ?_
      refine ge_iadd DX11_meets_44 ?_
      refine ge_iconst (v := (1 : Int32)) DX11_meets_45 rfl ?_
      refine ge_iadd DX11_meets_46 ?_
      refine ge_iald DX11_meets_47 is_375 al_375 ?_
      refine ge_iast DX11_meets_48 is_375 al_375 (fun m12 => ?_)
      refine ge_iinc 2 (v := (x8 + (1 : Int32))) (ls' := [(2, .int (x8 + (1 : Int32))), (0, .ref (xad X 362)), (1, .int y7)]) DX11_meets_49 rfl rfl (by decide) rfl ?_
      refine ge_goto (tgt := 23) DX11_meets_52 (by decide) ?_
      refine ge_sub [1, 2, 0] rfl ?_
      exact ih m12 (x8 + (1 : Int32))
    · refine ge_sub [0, 1] rfl ?_
      exact hk55 m6
set_option maxHeartbeats 4000000 in
set_option maxRecDepth 100000 in
theorem okX11_meets (l : Launch) (X : Xt) (m0 : Mem) (a1 : Int32) : Ct l yX11_meets cX11_meets 3 none rmX11_meets ιV X [.ref (xad X 362), .int a1] m0 (fX11_meets m0 a1) := by
  refine ct_of (own := RX11) (ls := [(0, .ref (xad X 362)), (1, .int a1)]) (by decide) rfl rfl (Nat.le_of_ble_eq_true rfl) (fun K => ?_)
  show gX11_meets K X 0 0 0 [(0, .ref (xad X 362)), (1, .int a1)] [] m0 (fX11_meets m0 a1)
  delta fX11_meets
  refine ge_aload_n 0 DX11_meets_0 rfl ?_
  refine ge_iload_n 1 DX11_meets_1 rfl ?_
  refine ge_callVi0 (st := []) cm_X11_345 DX11_meets_2 is_362 rfl (okX11_placeMet (kl K) X m0 a1) rfl rfl (Nat.le_of_ble_eq_true rfl) (by decide) ⟨rfl, rfl⟩ ⟨Nat.zero_le _, Nat.zero_le _⟩ (fun r2 m1 => ?_)
  refine ge_if_lt (tgt := 9) DX11_meets_5 (by decide) ?_ ?_
  · refine ge_aload_n 0 DX11_meets_9 rfl ?_
    refine ge_getR (i := 375) DX11_meets_10 fl_X11_46 is_362 (by decide) rfl ?_
    refine ge_bipush (v := (72 : Int32)) DX11_meets_13 rfl ?_
    refine ge_iald DX11_meets_15 is_375 al_375 ?_
    refine ge_bipush (v := (32 : Int32)) DX11_meets_16 rfl ?_
    refine ge_jn (P := fun k => ∀ (m3 : Mem), gX11_meets K X 0 0 66 [(0, .ref (xad X 362)), (1, .int a1)] [] m3 (k m3)) (fun m3 => ?_) (fun j66 hj66 => ?_)
    · refine ge_aload_n 0 DX11_meets_66 rfl ?_
      refine ge_getR (i := 375) DX11_meets_67 fl_X11_46 is_362 (by decide) rfl ?_
      refine ge_bipush (v := (40 : Int32)) DX11_meets_70 rfl ?_
      refine ge_aload_n 0 DX11_meets_72 rfl ?_
      refine ge_getR (i := 375) DX11_meets_73 fl_X11_46 is_362 (by decide) rfl ?_
      refine ge_bipush (v := (72 : Int32)) DX11_meets_76 rfl ?_
      refine ge_iald DX11_meets_78 is_375 al_375 ?_
      refine ge_iadd DX11_meets_79 ?_
      refine ge_iload_n 1 DX11_meets_80 rfl ?_
      refine ge_iast DX11_meets_81 is_375 al_375 (fun m4 => ?_)
      refine ge_aload_n 0 DX11_meets_82 rfl ?_
      refine ge_getR (i := 375) DX11_meets_83 fl_X11_46 is_362 (by decide) rfl ?_
      refine ge_bipush (v := (72 : Int32)) DX11_meets_86 rfl ?_
      refine ge_dup2 DX11_meets_88 rfl rfl ?_
      refine ge_iald DX11_meets_89 is_375 al_375 ?_
      refine ge_iconst (v := (1 : Int32)) DX11_meets_90 rfl ?_
      refine ge_iadd DX11_meets_91 ?_
      refine ge_iast DX11_meets_92 is_375 al_375 (fun m5 => ?_)
      exact ge_vret rfl DX11_meets_93
    refine ge_icmp_ne (tgt := 66) DX11_meets_18 (by decide) ?_ ?_
    · refine ge_iconst (v := (0 : Int32)) DX11_meets_21 rfl ?_
      refine ge_istore_n (ls' := [(2, .int (0 : Int32)), (0, .ref (xad X 362)), (1, .int a1)]) DX11_meets_22 (by decide) rfl ?_
      refine ge_sub [1, 2, 0] rfl ?_
      refine lX11_meets_L23 K X a1 (fun m10 => ?_) 5000 m1 (0 : Int32)
      · refine ge_aload_n 0 DX11_meets_55 rfl ?_
        refine ge_getR (i := 375) DX11_meets_56 fl_X11_46 is_362 (by decide) rfl ?_
        refine ge_bipush (v := (72 : Int32)) DX11_meets_59 rfl ?_
        refine ge_dup2 DX11_meets_61 rfl rfl ?_
        refine ge_iald DX11_meets_62 is_375 al_375 ?_
        refine ge_iconst (v := (1 : Int32)) DX11_meets_63 rfl ?_
        refine ge_isub DX11_meets_64 ?_
        refine ge_iast DX11_meets_65 is_375 al_375 (fun m11 => ?_)
        exact hj66 m11
    · exact hj66 m1
  · exact ge_vret rfl DX11_meets_8
abbrev gX11_run (K : Kt) (X : Xt) := GE (R := Int32) K rmX11_run X cX11_run 6 RX11 (some .int) (finM K X ιI 402 4824)
set_option maxHeartbeats 4000000 in
set_option maxRecDepth 100000 in
theorem lX11_run_L41 (K : Kt) (X : Xt) (hX : xn X = 385) (cE sE : Nat) {k86 : Mem → Option (Int32 × Mem)} (y11 : Int32)  (hk86 : ∀ (m14 : Mem), gX11_run K X cE sE 86 [(0, .ref (xad X 362))] [] m14 (k86 m14)) (hcE : cE ≤ 402) (hsE : sE ≤ 4824) :
    ∀ (n c0 s0 : Nat), c0 + n * 2 ≤ cE → s0 + n * 24 ≤ sE → ∀ (m10 : Mem) (x12 : Int32) (x13 : Int32), gX11_run K X c0 s0 41 [(0, .ref (xad X 362)), (2, .int y11), (3, .int x12), (4, .int x13)] [] m10 (fX11_run_L41 k86 y11 n m10 x12 x13) := by
  intro n
  induction n with
  | zero => intro c0 s0 h1 h2 m10 x12 x13; exact ge_none
  | succ n ih =>
    intro c0 s0 h1 h2 m10 x12 x13
    show gX11_run K X c0 s0 41 [(0, .ref (xad X 362)), (2, .int y11), (3, .int x12), (4, .int x13)] [] m10 (fX11_run_L41_b k86 y11 (fX11_run_L41 k86 y11 n) m10 x12 x13)
    delta fX11_run_L41_b
    refine ge_iload 3 DX11_run_41 rfl ?_
    refine ge_iload_n 1 DX11_run_43 rfl ?_
    refine ge_icmp_ge (tgt := 86) DX11_run_44 (by decide) ?_ ?_
    · refine ge_iload_n 2 DX11_run_47 rfl ?_
      refine ge_if_eq (tgt := 86) DX11_run_48 (by decide) ?_ ?_
      · refine ge_widen (cells' := cE) (slots' := sE) (by omega) (by omega) ?_
        refine ge_sub [0] rfl ?_
        exact hk86 m10
      · refine ge_aload_n 0 DX11_run_51 rfl ?_
        refine ge_getR (i := 375) DX11_run_52 fl_X11_46 is_362 (by decide) rfl ?_
        refine ge_bipush (v := (8 : Int32)) DX11_run_55 rfl ?_
        refine ge_aload_n 0 DX11_run_57 rfl ?_
        refine ge_getI DX11_run_58 fl_X11_319 is_362 (by decide) rfl ?_
        refine ge_iadd DX11_run_61 ?_
        refine ge_iald DX11_run_62 is_375 al_375 ?_
        refine ge_topi (fun x16 => ?_)
        refine ge_istore (ls' := [(5, .int x16), (0, .ref (xad X 362)), (2, .int y11), (3, .int x12), (4, .int x13)]) DX11_run_63 (by decide) rfl ?_
        refine ge_aload_n 1 DX11_run_65 rfl ?_
        refine ge_callViA (st := []) cm_X11_338 DX11_run_66 is_362 rfl (okX11_steps (kl K) X hX m10) rfl rfl (Nat.le_of_ble_eq_true rfl) (by decide) (dc := 2) (ds := 24) ⟨rfl, rfl⟩ ⟨by show _ + 2 ≤ (402 : Nat); omega, by show _ + 24 ≤ (4824 : Nat); omega⟩ (fun r18 m17 => ?_)
        refine ge_istore_n (ls' := [(3, .int r18), (5, .int x16), (0, .ref (xad X 362)), (2, .int y11), (4, .int x13)]) DX11_run_69 (by decide) rfl ?_
        refine ge_iload_n 0 DX11_run_70 rfl ?_
        refine ge_jn (P := fun k => ∀ (m19 : Mem), gX11_run K X (c0 + 2) (s0 + 24) 80 [(0, .ref (xad X 362)), (2, .int y11), (3, .int r18), (4, .int x13)] [] m19 (k m19)) (fun m19 => ?_) (fun j80 hj80 => ?_)
        · refine ge_iinc 3 (v := (x13 + (1 : Int32))) (ls' := [(4, .int (x13 + (1 : Int32))), (0, .ref (xad X 362)), (2, .int y11), (3, .int r18)]) DX11_run_80 rfl rfl (by decide) rfl ?_
          refine ge_goto (tgt := 41) DX11_run_83 (by decide) ?_
          refine ge_sub [1, 2, 3, 0] rfl ?_
          exact ih _ _ (by omega) (by omega) m19 r18 (x13 + (1 : Int32))
        refine ge_if_eq (tgt := 80) DX11_run_71 (by decide) ?_ ?_
        · refine ge_widen (cells' := (c0 + 2)) (slots' := (s0 + 24)) (by omega) (by omega) ?_
          refine ge_sub [2, 3, 0, 4] rfl ?_
          exact hj80 m17
        · refine ge_aload_n 2 DX11_run_74 rfl ?_
          refine ge_iload 1 DX11_run_75 rfl ?_
          refine ge_callVv0 (st := []) cm_X11_348 DX11_run_77 is_362 rfl (okX11_meets (kl K) X m17 x16) rfl rfl (Nat.le_of_ble_eq_true rfl) (by decide) ⟨rfl, rfl⟩ ⟨by show _ ≤ (402 : Nat); omega, by show _ ≤ (4824 : Nat); omega⟩ (fun m20 => ?_)
          refine ge_widen (cells' := (c0 + 2)) (slots' := (s0 + 24)) (by omega) (by omega) ?_
          refine ge_sub [2, 3, 0, 4] rfl ?_
          exact hj80 m20
    · refine ge_widen (cells' := cE) (slots' := sE) (by omega) (by omega) ?_
      refine ge_sub [0] rfl ?_
      exact hk86 m10
set_option maxHeartbeats 4000000 in
set_option maxRecDepth 100000 in
theorem okX11_run (l : Launch) (X : Xt) (hX : xn X = 385) (m0 : Mem) (a1 : Int32) (a2 : Int32) : Ct l yX11_run cX11_run 6 (some .int) rmX11_run ιI X [.ref (xad X 362), .int a1, .int a2] m0 (fX11_run m0 a1 a2) := by
  refine ct_of (own := RX11) (ls := [(0, .ref (xad X 362)), (1, .int a1), (2, .int a2)]) (by decide) rfl rfl (Nat.le_of_ble_eq_true rfl) (fun K => ?_)
  show gX11_run K X 0 0 0 [(0, .ref (xad X 362)), (1, .int a1), (2, .int a2)] [] m0 (fX11_run m0 a1 a2)
  delta fX11_run
  refine ge_iload_n 1 DX11_run_0 rfl ?_
  refine ge_callSi0 (st := []) cm_X11_313 DX11_run_1 (okX11_isCell (kl K) X m0 a1) rfl rfl (Nat.le_of_ble_eq_true rfl) (by decide) ⟨rfl, rfl⟩ ⟨by show _ ≤ (402 : Nat); omega, by show _ ≤ (4824 : Nat); omega⟩ (fun r2 m1 => ?_)
  refine ge_jn (P := fun k => ∀ (m3 : Mem), gX11_run K X 0 0 19 [(0, .ref (xad X 362))] [] m3 (k m3)) (fun m3 => ?_) (fun j19 hj19 => ?_)
  · refine ge_aload_n 0 DX11_run_19 rfl ?_
    refine ge_sipush (v := (-1001 : Int32)) DX11_run_20 rfl ?_
    refine ge_callVi0 (st := []) cm_X11_145 DX11_run_23 is_362 rfl (okX11_refuse (kl K) X m3 (-1001 : Int32)) rfl rfl (Nat.le_of_ble_eq_true rfl) (by decide) ⟨rfl, rfl⟩ ⟨by show _ ≤ (402 : Nat); omega, by show _ ≤ (4824 : Nat); omega⟩ (fun r5 m4 => ?_)
    refine ge_widen (cells' := 402) (slots' := 4824) (by omega) (by omega) ?_
    exact ge_iret rfl DX11_run_26
  refine ge_if_eq (tgt := 19) DX11_run_4 (by decide) ?_ ?_
  · refine ge_widen (cells' := 0) (slots' := 0) (by omega) (by omega) ?_
    refine ge_sub [0] rfl ?_
    exact hj19 m1
  · refine ge_iload_n 2 DX11_run_7 rfl ?_
    refine ge_i2l DX11_run_8 ?_
    refine ge_lconst (v := (1 : Int64)) DX11_run_9 rfl ?_
    refine ge_ldc2 (v := (200 : Int64)) kw_X11_331 DX11_run_10 ?_
    refine ge_callSi0 (st := []) cm_X11_89 DX11_run_13 (okX11_isIn (kl K) X m1 ((a2).toInt64) (1 : Int64) (200 : Int64)) rfl rfl (Nat.le_of_ble_eq_true rfl) (by decide) ⟨rfl, rfl⟩ ⟨by show _ ≤ (402 : Nat); omega, by show _ ≤ (4824 : Nat); omega⟩ (fun r7 m6 => ?_)
    refine ge_if_ne (tgt := 27) DX11_run_16 (by decide) ?_ ?_
    · refine ge_widen (cells' := 0) (slots' := 0) (by omega) (by omega) ?_
      refine ge_sub [0] rfl ?_
      exact hj19 m6
    · refine ge_aload_n 0 DX11_run_27 rfl ?_
      refine ge_callVv0 (st := []) cm_X11_298 DX11_run_28 is_362 rfl (okX11_notes (kl K) X m6) rfl rfl (Nat.le_of_ble_eq_true rfl) (by decide) ⟨rfl, rfl⟩ ⟨by show _ ≤ (402 : Nat); omega, by show _ ≤ (4824 : Nat); omega⟩ (fun m8 => ?_)
      refine ge_aload_n 0 DX11_run_31 rfl ?_
      refine ge_iload_n 1 DX11_run_32 rfl ?_
      refine ge_callVv0 (st := []) cm_X11_335 DX11_run_33 is_362 rfl (okX11_begins (kl K) X m8 a1) rfl rfl (Nat.le_of_ble_eq_true rfl) (by decide) ⟨rfl, rfl⟩ ⟨by show _ ≤ (402 : Nat); omega, by show _ ≤ (4824 : Nat); omega⟩ (fun m9 => ?_)
      refine ge_iconst (v := (1 : Int32)) DX11_run_36 rfl ?_
      refine ge_istore_n (ls' := [(3, .int (1 : Int32)), (0, .ref (xad X 362)), (1, .int a1), (2, .int a2)]) DX11_run_37 (by decide) rfl ?_
      refine ge_iconst (v := (0 : Int32)) DX11_run_38 rfl ?_
      refine ge_istore (ls' := [(4, .int (0 : Int32)), (3, .int (1 : Int32)), (0, .ref (xad X 362)), (1, .int a1), (2, .int a2)]) DX11_run_39 (by decide) rfl ?_
      refine ge_sub [2, 4, 1, 0] rfl ?_
      refine lX11_run_L41 K X hX ((0 + 201 * 2)) ((0 + 201 * 24)) a2 (fun m15 => ?_) (by omega) (by omega) 201 _ _ (by omega) (by omega) m9 (1 : Int32) (0 : Int32)
      · refine ge_aload_n 0 DX11_run_86 rfl ?_
        refine ge_getR (i := 375) DX11_run_87 fl_X11_46 is_362 (by decide) rfl ?_
        refine ge_bipush (v := (72 : Int32)) DX11_run_90 rfl ?_
        refine ge_iald DX11_run_92 is_375 al_375 ?_
        refine ge_widen (cells' := 402) (slots' := 4824) (by omega) (by omega) ?_
        exact ge_iret rfl DX11_run_93
abbrev gX11_met (K : Kt) (X : Xt) := GE (R := Int32) K rmX11_met X cX11_met 2 RX11 (some .int) (finM K X ιI 0 0)
set_option maxHeartbeats 4000000 in
set_option maxRecDepth 100000 in
theorem okX11_met (l : Launch) (X : Xt) (m0 : Mem) (a1 : Int32) : Ct l yX11_met cX11_met 2 (some .int) rmX11_met ιI X [.ref (xad X 362), .int a1] m0 (fX11_met m0 a1) := by
  refine ct_of (own := RX11) (ls := [(0, .ref (xad X 362)), (1, .int a1)]) (by decide) rfl rfl (Nat.le_of_ble_eq_true rfl) (fun K => ?_)
  show gX11_met K X 0 0 0 [(0, .ref (xad X 362)), (1, .int a1)] [] m0 (fX11_met m0 a1)
  delta fX11_met
  refine ge_iload_n 1 DX11_met_0 rfl ?_
  refine ge_callSi0 (st := []) cm_X11_229 DX11_met_1 (okX11_isWord (kl K) X m0 a1) rfl rfl (Nat.le_of_ble_eq_true rfl) (by decide) ⟨rfl, rfl⟩ ⟨Nat.zero_le _, Nat.zero_le _⟩ (fun r2 m1 => ?_)
  refine ge_if_ne (tgt := 17) DX11_met_4 (by decide) ?_ ?_
  · refine ge_aload_n 0 DX11_met_7 rfl ?_
    refine ge_sipush (v := (-1001 : Int32)) DX11_met_8 rfl ?_
    refine ge_callVi0 (st := []) cm_X11_145 DX11_met_11 is_362 rfl (okX11_refuse (kl K) X m1 (-1001 : Int32)) rfl rfl (Nat.le_of_ble_eq_true rfl) (by decide) ⟨rfl, rfl⟩ ⟨Nat.zero_le _, Nat.zero_le _⟩ (fun r4 m3 => ?_)
    refine ge_goto (tgt := 30) DX11_met_14 (by decide) ?_
    exact ge_iret rfl DX11_met_30
  · refine ge_aload_n 0 DX11_met_17 rfl ?_
    refine ge_iload_n 1 DX11_met_18 rfl ?_
    refine ge_callVi0 (st := []) cm_X11_345 DX11_met_19 is_362 rfl (okX11_placeMet (kl K) X m1 a1) rfl rfl (Nat.le_of_ble_eq_true rfl) (by decide) ⟨rfl, rfl⟩ ⟨Nat.zero_le _, Nat.zero_le _⟩ (fun r6 m5 => ?_)
    refine ge_if_lt (tgt := 29) DX11_met_22 (by decide) ?_ ?_
    · refine ge_iconst (v := (0 : Int32)) DX11_met_29 rfl ?_
      exact ge_iret rfl DX11_met_30
    · refine ge_iconst (v := (1 : Int32)) DX11_met_25 rfl ?_
      refine ge_goto (tgt := 30) DX11_met_26 (by decide) ?_
      exact ge_iret rfl DX11_met_30
abbrev gX11_order (K : Kt) (X : Xt) := GE (R := Int32) K rmX11_order X cX11_order 2 RX11 (some .int) (finM K X ιI 0 0)
set_option maxHeartbeats 4000000 in
set_option maxRecDepth 100000 in
theorem okX11_order (l : Launch) (X : Xt) (m0 : Mem) (a1 : Int32) : Ct l yX11_order cX11_order 2 (some .int) rmX11_order ιI X [.ref (xad X 362), .int a1] m0 (fX11_order m0 a1) := by
  refine ct_of (own := RX11) (ls := [(0, .ref (xad X 362)), (1, .int a1)]) (by decide) rfl rfl (Nat.le_of_ble_eq_true rfl) (fun K => ?_)
  show gX11_order K X 0 0 0 [(0, .ref (xad X 362)), (1, .int a1)] [] m0 (fX11_order m0 a1)
  delta fX11_order
  refine ge_iload_n 1 DX11_order_0 rfl ?_
  refine ge_i2l DX11_order_1 ?_
  refine ge_lconst (v := (0 : Int64)) DX11_order_2 rfl ?_
  refine ge_aload_n 0 DX11_order_3 rfl ?_
  refine ge_getR (i := 375) DX11_order_4 fl_X11_46 is_362 (by decide) rfl ?_
  refine ge_bipush (v := (72 : Int32)) DX11_order_7 rfl ?_
  refine ge_iald DX11_order_9 is_375 al_375 ?_
  refine ge_iconst (v := (1 : Int32)) DX11_order_10 rfl ?_
  refine ge_isub DX11_order_11 ?_
  refine ge_i2l DX11_order_12 ?_
  refine ge_callSi0 (st := []) cm_X11_89 DX11_order_13 (okX11_isIn (kl K) X m0 ((a1).toInt64) (0 : Int64) ((((m0 375 (ix (72 : Int32))) - (1 : Int32))).toInt64)) rfl rfl (Nat.le_of_ble_eq_true rfl) (by decide) ⟨rfl, rfl⟩ ⟨Nat.zero_le _, Nat.zero_le _⟩ (fun r2 m1 => ?_)
  refine ge_if_eq (tgt := 31) DX11_order_16 (by decide) ?_ ?_
  · refine ge_iconst (v := (-1 : Int32)) DX11_order_31 rfl ?_
    exact ge_iret rfl DX11_order_32
  · refine ge_aload_n 0 DX11_order_19 rfl ?_
    refine ge_getR (i := 375) DX11_order_20 fl_X11_46 is_362 (by decide) rfl ?_
    refine ge_bipush (v := (40 : Int32)) DX11_order_23 rfl ?_
    refine ge_iload_n 1 DX11_order_25 rfl ?_
    refine ge_iadd DX11_order_26 ?_
    refine ge_iald DX11_order_27 is_375 al_375 ?_
    refine ge_goto (tgt := 32) DX11_order_28 (by decide) ?_
    exact ge_iret rfl DX11_order_32
abbrev gX11_costs (K : Kt) (X : Xt) := GE (R := Int32) K rmX11_costs X cX11_costs 2 RX11 (some .int) (finM K X ιI 2 24)
set_option maxHeartbeats 4000000 in
set_option maxRecDepth 100000 in
theorem okX11_costs (l : Launch) (X : Xt) (hX : xn X = 385) (m0 : Mem) (a1 : Int32) : Ct l yX11_costs cX11_costs 2 (some .int) rmX11_costs ιI X [.ref (xad X 362), .int a1] m0 (fX11_costs m0 a1) := by
  refine ct_of (own := RX11) (ls := [(0, .ref (xad X 362)), (1, .int a1)]) (by decide) rfl rfl (Nat.le_of_ble_eq_true rfl) (fun K => ?_)
  show gX11_costs K X 0 0 0 [(0, .ref (xad X 362)), (1, .int a1)] [] m0 (fX11_costs m0 a1)
  delta fX11_costs
  refine ge_iload_n 1 DX11_costs_0 rfl ?_
  refine ge_callSi0 (st := []) cm_X11_229 DX11_costs_1 (okX11_isWord (kl K) X m0 a1) rfl rfl (Nat.le_of_ble_eq_true rfl) (by decide) ⟨rfl, rfl⟩ ⟨by show _ ≤ (2 : Nat); omega, by show _ ≤ (24 : Nat); omega⟩ (fun r2 m1 => ?_)
  refine ge_if_eq (tgt := 15) DX11_costs_4 (by decide) ?_ ?_
  · refine ge_aload_n 0 DX11_costs_15 rfl ?_
    refine ge_sipush (v := (-1001 : Int32)) DX11_costs_16 rfl ?_
    refine ge_callVi0 (st := []) cm_X11_145 DX11_costs_19 is_362 rfl (okX11_refuse (kl K) X m1 (-1001 : Int32)) rfl rfl (Nat.le_of_ble_eq_true rfl) (by decide) ⟨rfl, rfl⟩ ⟨by show _ ≤ (2 : Nat); omega, by show _ ≤ (24 : Nat); omega⟩ (fun r4 m3 => ?_)
    refine ge_widen (cells' := 2) (slots' := 24) (by omega) (by omega) ?_
    exact ge_iret rfl DX11_costs_22
  · refine ge_aload_n 0 DX11_costs_7 rfl ?_
    refine ge_iload_n 1 DX11_costs_8 rfl ?_
    refine ge_callViA (st := []) cm_X11_342 DX11_costs_9 is_362 rfl (okX11_costsOf (kl K) X hX m1 a1) rfl rfl (Nat.le_of_ble_eq_true rfl) (by decide) (dc := 2) (ds := 24) ⟨rfl, rfl⟩ ⟨by show _ + 2 ≤ (2 : Nat); omega, by show _ + 24 ≤ (24 : Nat); omega⟩ (fun r6 m5 => ?_)
    refine ge_goto (tgt := 22) DX11_costs_12 (by decide) ?_
    refine ge_widen (cells' := 2) (slots' := 24) (by omega) (by omega) ?_
    exact ge_iret rfl DX11_costs_22
abbrev gX11_move (K : Kt) (X : Xt) := GE (R := Unit) K rmX11_move X cX11_move 3 RX11 none (finM K X ιV 0 0)
set_option maxHeartbeats 4000000 in
set_option maxRecDepth 100000 in
theorem lX11_move_L2 (K : Kt) (X : Xt) {k20 : Mem → Option (Unit × Mem)} (q2 : Nat) (q3 : Nat) (hq2 : Is 12 q2) (hq3 : Is 12 q3) (hk20 : ∀ (m5 : Mem), gX11_move K X 0 0 20 [] [] m5 (k20 m5)) :
    ∀ (n : Nat) (m1 : Mem) (x4 : Int32), gX11_move K X 0 0 2 [(0, .ref (xad X q2)), (1, .ref (xad X q3)), (2, .int x4)] [] m1 (fX11_move_L2 k20 q2 q3 n m1 x4) := by
  intro n
  induction n with
  | zero => intro m1 x4; exact ge_none
  | succ n ih =>
    intro m1 x4
    show gX11_move K X 0 0 2 [(0, .ref (xad X q2)), (1, .ref (xad X q3)), (2, .int x4)] [] m1 (fX11_move_L2_b k20 q2 q3 (fX11_move_L2 k20 q2 q3 n) m1 x4)
    delta fX11_move_L2_b
    refine ge_iload_n 2 DX11_move_2 rfl ?_
    refine ge_aload_n 0 DX11_move_3 rfl ?_
    refine ge_alen DX11_move_4 hq2 rfl ?_
    refine ge_icmp_ge (tgt := 20) DX11_move_5 (by decide) ?_ ?_
    · refine ge_aload_n 1 DX11_move_8 rfl ?_
      refine ge_iload_n 2 DX11_move_9 rfl ?_
      refine ge_aload_n 0 DX11_move_10 rfl ?_
      refine ge_iload_n 2 DX11_move_11 rfl ?_
      refine ge_iald DX11_move_12 hq2 rfl ?_
      refine ge_iast DX11_move_13 hq3 rfl (fun m7 => ?_)
      refine ge_iinc 2 (v := (x4 + (1 : Int32))) (ls' := [(2, .int (x4 + (1 : Int32))), (0, .ref (xad X q2)), (1, .ref (xad X q3))]) DX11_move_14 rfl rfl (by decide) rfl ?_
      refine ge_goto (tgt := 2) DX11_move_17 (by decide) ?_
      refine ge_sub [1, 2, 0] rfl ?_
      exact ih m7 (x4 + (1 : Int32))
    · refine ge_sub [] rfl ?_
      exact hk20 m1
set_option maxHeartbeats 4000000 in
set_option maxRecDepth 100000 in
theorem okX11_move (l : Launch) (X : Xt) (m0 : Mem) (a0 : Nat) (ha0 : Is 12 a0) (a1 : Nat) (ha1 : Is 12 a1) : Ct l yX11_move cX11_move 3 none rmX11_move ιV X [.ref (xad X a0), .ref (xad X a1)] m0 (fX11_move m0 a0 a1) := by
  refine ct_of (own := RX11) (ls := [(0, .ref (xad X a0)), (1, .ref (xad X a1))]) (by decide) rfl rfl (Nat.le_of_ble_eq_true rfl) (fun K => ?_)
  show gX11_move K X 0 0 0 [(0, .ref (xad X a0)), (1, .ref (xad X a1))] [] m0 (fX11_move m0 a0 a1)
  delta fX11_move
  refine ge_iconst (v := (0 : Int32)) DX11_move_0 rfl ?_
  refine ge_istore_n (ls' := [(2, .int (0 : Int32)), (0, .ref (xad X a0)), (1, .ref (xad X a1))]) DX11_move_1 (by decide) rfl ?_
  refine ge_sub [1, 2, 0] rfl ?_
  refine lX11_move_L2 K X a0 a1 ha0 ha1 (fun m6 => ?_) 5000 m0 (0 : Int32)
  · exact ge_vret rfl DX11_move_20
abbrev gX11_image (K : Kt) (X : Xt) := GE (R := Int32) K rmX11_image X cX11_image 1 RX11 (some .int) (finM K X ιI 0 0)
set_option maxHeartbeats 4000000 in
set_option maxRecDepth 100000 in
theorem okX11_image (l : Launch) (X : Xt) (m0 : Mem) : Ct l yX11_image cX11_image 1 (some .int) rmX11_image ιI X [.ref (xad X 362)] m0 (fX11_image m0) := by
  refine ct_of (own := RX11) (ls := [(0, .ref (xad X 362))]) (by decide) rfl rfl (Nat.le_of_ble_eq_true rfl) (fun K => ?_)
  show gX11_image K X 0 0 0 [(0, .ref (xad X 362))] [] m0 (fX11_image m0)
  delta fX11_image
  refine ge_aload_n 0 DX11_image_0 rfl ?_
  refine ge_getR (i := 375) DX11_image_1 fl_X11_46 is_362 (by decide) rfl ?_
  refine ge_aload_n 0 DX11_image_4 rfl ?_
  refine ge_getR (i := 377) DX11_image_5 fl_X11_52 is_362 (by decide) rfl ?_
  refine ge_callSv0 (st := []) cm_X11_351 DX11_image_8 (okX11_move (kl K) X m0 375 is_375 377 is_377) rfl rfl (Nat.le_of_ble_eq_true rfl) (by decide) ⟨rfl, rfl⟩ ⟨Nat.zero_le _, Nat.zero_le _⟩ (fun m1 => ?_)
  refine ge_aload_n 0 DX11_image_11 rfl ?_
  refine ge_getR (i := 364) DX11_image_12 fl_X11_13 is_362 (by decide) rfl ?_
  refine ge_aload_n 0 DX11_image_15 rfl ?_
  refine ge_getR (i := 378) DX11_image_16 fl_X11_55 is_362 (by decide) rfl ?_
  refine ge_callSv0 (st := []) cm_X11_351 DX11_image_19 (okX11_move (kl K) X m1 364 is_364 378 is_378) rfl rfl (Nat.le_of_ble_eq_true rfl) (by decide) ⟨rfl, rfl⟩ ⟨Nat.zero_le _, Nat.zero_le _⟩ (fun m2 => ?_)
  refine ge_aload_n 0 DX11_image_22 rfl ?_
  refine ge_getR (i := 365) DX11_image_23 fl_X11_16 is_362 (by decide) rfl ?_
  refine ge_aload_n 0 DX11_image_26 rfl ?_
  refine ge_getR (i := 379) DX11_image_27 fl_X11_58 is_362 (by decide) rfl ?_
  refine ge_callSv0 (st := []) cm_X11_351 DX11_image_30 (okX11_move (kl K) X m2 365 is_365 379 is_379) rfl rfl (Nat.le_of_ble_eq_true rfl) (by decide) ⟨rfl, rfl⟩ ⟨Nat.zero_le _, Nat.zero_le _⟩ (fun m3 => ?_)
  refine ge_aload_n 0 DX11_image_33 rfl ?_
  refine ge_getR (i := 366) DX11_image_34 fl_X11_19 is_362 (by decide) rfl ?_
  refine ge_aload_n 0 DX11_image_37 rfl ?_
  refine ge_getR (i := 380) DX11_image_38 fl_X11_61 is_362 (by decide) rfl ?_
  refine ge_callSv0 (st := []) cm_X11_351 DX11_image_41 (okX11_move (kl K) X m3 366 is_366 380 is_380) rfl rfl (Nat.le_of_ble_eq_true rfl) (by decide) ⟨rfl, rfl⟩ ⟨Nat.zero_le _, Nat.zero_le _⟩ (fun m4 => ?_)
  refine ge_aload_n 0 DX11_image_44 rfl ?_
  refine ge_getR (i := 367) DX11_image_45 fl_X11_22 is_362 (by decide) rfl ?_
  refine ge_aload_n 0 DX11_image_48 rfl ?_
  refine ge_getR (i := 381) DX11_image_49 fl_X11_64 is_362 (by decide) rfl ?_
  refine ge_callSv0 (st := []) cm_X11_351 DX11_image_52 (okX11_move (kl K) X m4 367 is_367 381 is_381) rfl rfl (Nat.le_of_ble_eq_true rfl) (by decide) ⟨rfl, rfl⟩ ⟨Nat.zero_le _, Nat.zero_le _⟩ (fun m5 => ?_)
  refine ge_aload_n 0 DX11_image_55 rfl ?_
  refine ge_getR (i := 368) DX11_image_56 fl_X11_25 is_362 (by decide) rfl ?_
  refine ge_aload_n 0 DX11_image_59 rfl ?_
  refine ge_getR (i := 382) DX11_image_60 fl_X11_67 is_362 (by decide) rfl ?_
  refine ge_callSv0 (st := []) cm_X11_351 DX11_image_63 (okX11_move (kl K) X m5 368 is_368 382 is_382) rfl rfl (Nat.le_of_ble_eq_true rfl) (by decide) ⟨rfl, rfl⟩ ⟨Nat.zero_le _, Nat.zero_le _⟩ (fun m6 => ?_)
  refine ge_aload_n 0 DX11_image_66 rfl ?_
  refine ge_aload_n 0 DX11_image_67 rfl ?_
  refine ge_getI DX11_image_68 fl_X11_76 is_362 (by decide) rfl ?_
  refine ge_put DX11_image_71 fp_X11_355 is_362 (by decide) rfl (fun m7 => ?_)
  refine ge_aload_n 0 DX11_image_74 rfl ?_
  refine ge_iconst (v := (1 : Int32)) DX11_image_75 rfl ?_
  refine ge_putz rfl DX11_image_76 fp_X11_358 is_362 (by decide) rfl (fun m8 => ?_)
  refine ge_aload_n 0 DX11_image_79 rfl ?_
  refine ge_getI DX11_image_80 fl_X11_76 is_362 (by decide) rfl ?_
  exact ge_iret rfl DX11_image_83
abbrev gX11_back (K : Kt) (X : Xt) := GE (R := Int32) K rmX11_back X cX11_back 1 RX11 (some .int) (finM K X ιI 0 0)
set_option maxHeartbeats 4000000 in
set_option maxRecDepth 100000 in
theorem okX11_back (l : Launch) (X : Xt) (m0 : Mem) : Ct l yX11_back cX11_back 1 (some .int) rmX11_back ιI X [.ref (xad X 362)] m0 (fX11_back m0) := by
  refine ct_of (own := RX11) (ls := [(0, .ref (xad X 362))]) (by decide) rfl rfl (Nat.le_of_ble_eq_true rfl) (fun K => ?_)
  show gX11_back K X 0 0 0 [(0, .ref (xad X 362))] [] m0 (fX11_back m0)
  delta fX11_back
  refine ge_aload_n 0 DX11_back_0 rfl ?_
  refine ge_getI DX11_back_1 fl_X11_358 is_362 (by decide) rfl ?_
  refine ge_if_ne (tgt := 15) DX11_back_4 (by decide) ?_ ?_
  · refine ge_aload_n 0 DX11_back_7 rfl ?_
    refine ge_sipush (v := (-1003 : Int32)) DX11_back_8 rfl ?_
    refine ge_callVi0 (st := []) cm_X11_145 DX11_back_11 is_362 rfl (okX11_refuse (kl K) X m0 (-1003 : Int32)) rfl rfl (Nat.le_of_ble_eq_true rfl) (by decide) ⟨rfl, rfl⟩ ⟨Nat.zero_le _, Nat.zero_le _⟩ (fun r2 m1 => ?_)
    exact ge_iret rfl DX11_back_14
  · refine ge_aload_n 0 DX11_back_15 rfl ?_
    refine ge_getR (i := 377) DX11_back_16 fl_X11_52 is_362 (by decide) rfl ?_
    refine ge_aload_n 0 DX11_back_19 rfl ?_
    refine ge_getR (i := 375) DX11_back_20 fl_X11_46 is_362 (by decide) rfl ?_
    refine ge_callSv0 (st := []) cm_X11_351 DX11_back_23 (okX11_move (kl K) X m0 377 is_377 375 is_375) rfl rfl (Nat.le_of_ble_eq_true rfl) (by decide) ⟨rfl, rfl⟩ ⟨Nat.zero_le _, Nat.zero_le _⟩ (fun m3 => ?_)
    refine ge_aload_n 0 DX11_back_26 rfl ?_
    refine ge_getR (i := 378) DX11_back_27 fl_X11_55 is_362 (by decide) rfl ?_
    refine ge_aload_n 0 DX11_back_30 rfl ?_
    refine ge_getR (i := 364) DX11_back_31 fl_X11_13 is_362 (by decide) rfl ?_
    refine ge_callSv0 (st := []) cm_X11_351 DX11_back_34 (okX11_move (kl K) X m3 378 is_378 364 is_364) rfl rfl (Nat.le_of_ble_eq_true rfl) (by decide) ⟨rfl, rfl⟩ ⟨Nat.zero_le _, Nat.zero_le _⟩ (fun m4 => ?_)
    refine ge_aload_n 0 DX11_back_37 rfl ?_
    refine ge_getR (i := 379) DX11_back_38 fl_X11_58 is_362 (by decide) rfl ?_
    refine ge_aload_n 0 DX11_back_41 rfl ?_
    refine ge_getR (i := 365) DX11_back_42 fl_X11_16 is_362 (by decide) rfl ?_
    refine ge_callSv0 (st := []) cm_X11_351 DX11_back_45 (okX11_move (kl K) X m4 379 is_379 365 is_365) rfl rfl (Nat.le_of_ble_eq_true rfl) (by decide) ⟨rfl, rfl⟩ ⟨Nat.zero_le _, Nat.zero_le _⟩ (fun m5 => ?_)
    refine ge_aload_n 0 DX11_back_48 rfl ?_
    refine ge_getR (i := 380) DX11_back_49 fl_X11_61 is_362 (by decide) rfl ?_
    refine ge_aload_n 0 DX11_back_52 rfl ?_
    refine ge_getR (i := 366) DX11_back_53 fl_X11_19 is_362 (by decide) rfl ?_
    refine ge_callSv0 (st := []) cm_X11_351 DX11_back_56 (okX11_move (kl K) X m5 380 is_380 366 is_366) rfl rfl (Nat.le_of_ble_eq_true rfl) (by decide) ⟨rfl, rfl⟩ ⟨Nat.zero_le _, Nat.zero_le _⟩ (fun m6 => ?_)
    refine ge_aload_n 0 DX11_back_59 rfl ?_
    refine ge_getR (i := 381) DX11_back_60 fl_X11_64 is_362 (by decide) rfl ?_
    refine ge_aload_n 0 DX11_back_63 rfl ?_
    refine ge_getR (i := 367) DX11_back_64 fl_X11_22 is_362 (by decide) rfl ?_
    refine ge_callSv0 (st := []) cm_X11_351 DX11_back_67 (okX11_move (kl K) X m6 381 is_381 367 is_367) rfl rfl (Nat.le_of_ble_eq_true rfl) (by decide) ⟨rfl, rfl⟩ ⟨Nat.zero_le _, Nat.zero_le _⟩ (fun m7 => ?_)
    refine ge_aload_n 0 DX11_back_70 rfl ?_
    refine ge_getR (i := 382) DX11_back_71 fl_X11_67 is_362 (by decide) rfl ?_
    refine ge_aload_n 0 DX11_back_74 rfl ?_
    refine ge_getR (i := 368) DX11_back_75 fl_X11_25 is_362 (by decide) rfl ?_
    refine ge_callSv0 (st := []) cm_X11_351 DX11_back_78 (okX11_move (kl K) X m7 382 is_382 368 is_368) rfl rfl (Nat.le_of_ble_eq_true rfl) (by decide) ⟨rfl, rfl⟩ ⟨Nat.zero_le _, Nat.zero_le _⟩ (fun m8 => ?_)
    refine ge_aload_n 0 DX11_back_81 rfl ?_
    refine ge_aload_n 0 DX11_back_82 rfl ?_
    refine ge_getI DX11_back_83 fl_X11_355 is_362 (by decide) rfl ?_
    refine ge_callVv0 (st := []) cm_X11_203 DX11_back_86 is_362 rfl (okX11_newForms (kl K) X m8 (m8 362 25)) rfl rfl (Nat.le_of_ble_eq_true rfl) (by decide) ⟨rfl, rfl⟩ ⟨Nat.zero_le _, Nat.zero_le _⟩ (fun m9 => ?_)
    refine ge_aload_n 0 DX11_back_89 rfl ?_
    refine ge_getI DX11_back_90 fl_X11_76 is_362 (by decide) rfl ?_
    exact ge_iret rfl DX11_back_93
abbrev gX11_count (K : Kt) (X : Xt) := GE (R := Int32) K rmX11_count X cX11_count 2 RX11 (some .int) (finM K X ιI 0 0)
set_option maxHeartbeats 4000000 in
set_option maxRecDepth 100000 in
theorem okX11_count (l : Launch) (X : Xt) (m0 : Mem) (a1 : Int32) : Ct l yX11_count cX11_count 2 (some .int) rmX11_count ιI X [.ref (xad X 362), .int a1] m0 (fX11_count m0 a1) := by
  refine ct_of (own := RX11) (ls := [(0, .ref (xad X 362)), (1, .int a1)]) (by decide) rfl rfl (Nat.le_of_ble_eq_true rfl) (fun K => ?_)
  show gX11_count K X 0 0 0 [(0, .ref (xad X 362)), (1, .int a1)] [] m0 (fX11_count m0 a1)
  delta fX11_count
  refine ge_iload_n 1 DX11_count_0 rfl ?_
  refine ge_ite (fun hx1 => ?_) (fun hx1 => ?_)
  · refine ge_tsw (v := (0 : Int32)) (tgt := 36) DX11_count_1 hx1 (by decide) (by decide) rfl (by decide) ?_
    refine ge_aload_n 0 DX11_count_36 rfl ?_
    refine ge_getI DX11_count_37 fl_X11_76 is_362 (by decide) rfl ?_
    exact ge_iret rfl DX11_count_40
  refine ge_ite (fun hx2 => ?_) (fun hx2 => ?_)
  · refine ge_tsw (v := (1 : Int32)) (tgt := 41) DX11_count_1 hx2 (by decide) (by decide) rfl (by decide) ?_
    refine ge_aload_n 0 DX11_count_41 rfl ?_
    refine ge_getI DX11_count_42 fl_X11_148 is_362 (by decide) rfl ?_
    exact ge_iret rfl DX11_count_45
  refine ge_ite (fun hx3 => ?_) (fun hx3 => ?_)
  · refine ge_tsw (v := (2 : Int32)) (tgt := 46) DX11_count_1 hx3 (by decide) (by decide) rfl (by decide) ?_
    refine ge_aload_n 0 DX11_count_46 rfl ?_
    refine ge_getI DX11_count_47 fl_X11_301 is_362 (by decide) rfl ?_
    exact ge_iret rfl DX11_count_50
  refine ge_ite (fun hx4 => ?_) (fun hx4 => ?_)
  · refine ge_tsw (v := (3 : Int32)) (tgt := 51) DX11_count_1 hx4 (by decide) (by decide) rfl (by decide) ?_
    refine ge_aload_n 0 DX11_count_51 rfl ?_
    refine ge_getI DX11_count_52 fl_X11_131 is_362 (by decide) rfl ?_
    exact ge_iret rfl DX11_count_55
  refine ge_ite (fun hx5 => ?_) (fun hx5 => ?_)
  · refine ge_tsw (v := (4 : Int32)) (tgt := 56) DX11_count_1 hx5 (by decide) (by decide) rfl (by decide) ?_
    refine ge_aload_n 0 DX11_count_56 rfl ?_
    refine ge_getR (i := 375) DX11_count_57 fl_X11_46 is_362 (by decide) rfl ?_
    refine ge_bipush (v := (72 : Int32)) DX11_count_60 rfl ?_
    refine ge_iald DX11_count_62 is_375 al_375 ?_
    exact ge_iret rfl DX11_count_63
  refine ge_tswd (tgt := 64) DX11_count_1 (sw_out 0 5 rfl (by decide) (fun i hi => by rcases i with _ | _ | _ | _ | _ | i <;> first | exact absurd hi (by omega) | assumption)) (by decide) ?_
  refine ge_aload_n 0 DX11_count_64 rfl ?_
  refine ge_sipush (v := (-1001 : Int32)) DX11_count_65 rfl ?_
  refine ge_callVi0 (st := []) cm_X11_145 DX11_count_68 is_362 rfl (okX11_refuse (kl K) X m0 (-1001 : Int32)) rfl rfl (Nat.le_of_ble_eq_true rfl) (by decide) ⟨rfl, rfl⟩ ⟨Nat.zero_le _, Nat.zero_le _⟩ (fun r7 m6 => ?_)
  exact ge_iret rfl DX11_count_71
abbrev gX11_refused (K : Kt) (X : Xt) := GE (R := Int32) K rmX11_refused X cX11_refused 2 RX11 (some .int) (finM K X ιI 0 0)
set_option maxHeartbeats 4000000 in
set_option maxRecDepth 100000 in
theorem okX11_refused (l : Launch) (X : Xt) (m0 : Mem) (a1 : Int32) : Ct l yX11_refused cX11_refused 2 (some .int) rmX11_refused ιI X [.ref (xad X 362), .int a1] m0 (fX11_refused m0 a1) := by
  refine ct_of (own := RX11) (ls := [(0, .ref (xad X 362)), (1, .int a1)]) (by decide) rfl rfl (Nat.le_of_ble_eq_true rfl) (fun K => ?_)
  show gX11_refused K X 0 0 0 [(0, .ref (xad X 362)), (1, .int a1)] [] m0 (fX11_refused m0 a1)
  delta fX11_refused
  refine ge_iload_n 1 DX11_refused_0 rfl ?_
  refine ge_i2l DX11_refused_1 ?_
  refine ge_lconst (v := (0 : Int64)) DX11_refused_2 rfl ?_
  refine ge_ldc2 (v := (2 : Int64)) kw_X11_245 DX11_refused_3 ?_
  refine ge_callSi0 (st := []) cm_X11_89 DX11_refused_6 (okX11_isIn (kl K) X m0 ((a1).toInt64) (0 : Int64) (2 : Int64)) rfl rfl (Nat.le_of_ble_eq_true rfl) (by decide) ⟨rfl, rfl⟩ ⟨Nat.zero_le _, Nat.zero_le _⟩ (fun r2 m1 => ?_)
  refine ge_if_eq (tgt := 21) DX11_refused_9 (by decide) ?_ ?_
  · refine ge_aload_n 0 DX11_refused_21 rfl ?_
    refine ge_sipush (v := (-1001 : Int32)) DX11_refused_22 rfl ?_
    refine ge_callVi0 (st := []) cm_X11_145 DX11_refused_25 is_362 rfl (okX11_refuse (kl K) X m1 (-1001 : Int32)) rfl rfl (Nat.le_of_ble_eq_true rfl) (by decide) ⟨rfl, rfl⟩ ⟨Nat.zero_le _, Nat.zero_le _⟩ (fun r4 m3 => ?_)
    exact ge_iret rfl DX11_refused_28
  · refine ge_aload_n 0 DX11_refused_12 rfl ?_
    refine ge_getR (i := 363) DX11_refused_13 fl_X11_7 is_362 (by decide) rfl ?_
    refine ge_iload_n 1 DX11_refused_16 rfl ?_
    refine ge_iald DX11_refused_17 is_363 al_363 ?_
    refine ge_goto (tgt := 28) DX11_refused_18 (by decide) ?_
    exact ge_iret rfl DX11_refused_28
