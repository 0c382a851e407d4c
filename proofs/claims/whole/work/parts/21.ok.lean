abbrev gX10_withSign (K : Kt) (X : Xt) := GE (R := Int32) K rmX10_withSign X cX10_withSign 2 RX10 (some .int) (finM K X ιI 0 0)
set_option maxHeartbeats 4000000 in
set_option maxRecDepth 100000 in
theorem okX10_withSign (l : Launch) (X : Xt) (m0 : Mem) (a0 : Int32) (a1 : Int32) : Ct l yX10_withSign cX10_withSign 2 (some .int) rmX10_withSign ιI X [.int a0, .int a1] m0 (fX10_withSign m0 a0 a1) := by
  refine ct_of (own := RX10) (ls := [(0, .int a0), (1, .int a1)]) (by decide) rfl rfl (Nat.le_of_ble_eq_true rfl) (fun K => ?_)
  show gX10_withSign K X 0 0 0 [(0, .int a0), (1, .int a1)] [] m0 (fX10_withSign m0 a0 a1)
  delta fX10_withSign
  refine ge_iload_n 0 DX10_withSign_0 rfl ?_
  refine ge_bipush (v := (8 : Int32)) DX10_withSign_1 rfl ?_
  refine ge_ishl DX10_withSign_3 ?_
  refine ge_iload_n 1 DX10_withSign_4 rfl ?_
  refine ge_ior DX10_withSign_5 ?_
  exact ge_iret rfl DX10_withSign_6
abbrev gX5_formNamed (K : Kt) (X : Xt) := GE (R := Int32) K rmX5_formNamed X cX5_formNamed 3 RX5 (some .int) (finM K X ιI 0 0)
set_option maxHeartbeats 4000000 in
set_option maxRecDepth 100000 in
theorem lX5_formNamed_L4 (K : Kt) (X : Xt) {k73 : Mem → Int32 → Option (Int32 × Mem)}   (hk73 : ∀ (m4 : Mem) (x5 : Int32), gX5_formNamed K X 0 0 73 [(0, .ref (xad X 295)), (1, .int x5)] [] m4 (k73 m4 x5)) :
    ∀ (n : Nat) (m1 : Mem) (x2 : Int32) (x3 : Int32), gX5_formNamed K X 0 0 4 [(0, .ref (xad X 295)), (1, .int x2), (2, .int x3)] [] m1 (fX5_formNamed_L4 k73  n m1 x2 x3) := by
  intro n
  induction n with
  | zero => intro m1 x2 x3; exact ge_none
  | succ n ih =>
    intro m1 x2 x3
    show gX5_formNamed K X 0 0 4 [(0, .ref (xad X 295)), (1, .int x2), (2, .int x3)] [] m1 (fX5_formNamed_L4_b k73  (fX5_formNamed_L4 k73  n) m1 x2 x3)
    delta fX5_formNamed_L4_b
    refine ge_iload_n 2 DX5_formNamed_4 rfl ?_
    refine ge_sipush (v := (200 : Int32)) DX5_formNamed_5 rfl ?_
    refine ge_icmp_ge (tgt := 73) DX5_formNamed_8 (by decide) ?_ ?_
    · refine ge_aload_n 0 DX5_formNamed_11 rfl ?_
      refine ge_getR (i := 281) DX5_formNamed_12 fl_X5_18 is_295 (by decide) rfl ?_
      refine ge_aload_n 0 DX5_formNamed_15 rfl ?_
      refine ge_getI DX5_formNamed_16 fl_X5_9 is_295 (by decide) rfl ?_
      refine ge_callVi0 (st := []) cm_X5_59 DX5_formNamed_19 is_281 rfl (okX0_at (kl K) X 281 is_281 m1 (m1 295 3)) rfl rfl (Nat.le_of_ble_eq_true rfl) (by decide) ⟨rfl, rfl⟩ ⟨Nat.zero_le _, Nat.zero_le _⟩ (fun r11 m10 => ?_)
      refine ge_bipush (v := (97 : Int32)) DX5_formNamed_22 rfl ?_
      refine ge_bipush (v := (122 : Int32)) DX5_formNamed_24 rfl ?_
      refine ge_callSi0 (st := []) cm_X5_62 DX5_formNamed_26 (okX10_within (kl K) X m10 r11 (97 : Int32) (122 : Int32)) rfl rfl (Nat.le_of_ble_eq_true rfl) (by decide) ⟨rfl, rfl⟩ ⟨Nat.zero_le _, Nat.zero_le _⟩ (fun r13 m12 => ?_)
      refine ge_if_eq (tgt := 73) DX5_formNamed_29 (by decide) ?_ ?_
      · refine ge_sub [0, 1] rfl ?_
        exact hk73 m12 x2
      · refine ge_iload_n 2 DX5_formNamed_32 rfl ?_
        refine ge_iconst (v := (3 : Int32)) DX5_formNamed_33 rfl ?_
        refine ge_jn (P := fun k => ∀ (m14 : Mem) (v15 : Int32), gX5_formNamed K X 0 0 56 [(0, .ref (xad X 295)), (2, .int x3)] [.int v15] m14 (k m14 v15)) (fun m14 v15 => ?_) (fun j56 hj56 => ?_)
        · refine ge_istore_n (ls' := [(1, .int v15), (0, .ref (xad X 295)), (2, .int x3)]) DX5_formNamed_56 (by decide) rfl ?_
          refine ge_aload_n 1 DX5_formNamed_57 rfl ?_
          refine ge_dup DX5_formNamed_58 rfl ?_
          refine ge_getI DX5_formNamed_59 fl_X5_9 is_295 (by decide) rfl ?_
          refine ge_iconst (v := (1 : Int32)) DX5_formNamed_62 rfl ?_
          refine ge_iadd DX5_formNamed_63 ?_
          refine ge_put DX5_formNamed_64 fp_X5_9 is_295 (by decide) rfl (fun m16 => ?_)
          refine ge_iinc 2 (v := (x3 + (1 : Int32))) (ls' := [(2, .int (x3 + (1 : Int32))), (1, .int v15), (0, .ref (xad X 295))]) DX5_formNamed_67 rfl rfl (by decide) rfl ?_
          refine ge_goto (tgt := 4) DX5_formNamed_70 (by decide) ?_
          refine ge_sub [2, 1, 0] rfl ?_
          exact ih m16 v15 (x3 + (1 : Int32))
        refine ge_icmp_ge (tgt := 55) DX5_formNamed_34 (by decide) ?_ ?_
        · refine ge_iload_n 1 DX5_formNamed_37 rfl ?_
          refine ge_aload_n 0 DX5_formNamed_38 rfl ?_
          refine ge_getR (i := 281) DX5_formNamed_39 fl_X5_18 is_295 (by decide) rfl ?_
          refine ge_aload_n 0 DX5_formNamed_42 rfl ?_
          refine ge_getI DX5_formNamed_43 fl_X5_9 is_295 (by decide) rfl ?_
          refine ge_callVi0 (st := [.int x2]) cm_X5_59 DX5_formNamed_46 is_281 rfl (okX0_at (kl K) X 281 is_281 m12 (m12 295 3)) rfl rfl (Nat.le_of_ble_eq_true rfl) (by decide) ⟨rfl, rfl⟩ ⟨Nat.zero_le _, Nat.zero_le _⟩ (fun r18 m17 => ?_)
          refine ge_callSi0 (st := []) cm_X5_66 DX5_formNamed_49 (okX10_withSign (kl K) X m17 x2 r18) rfl rfl (Nat.le_of_ble_eq_true rfl) (by decide) ⟨rfl, rfl⟩ ⟨Nat.zero_le _, Nat.zero_le _⟩ (fun r20 m19 => ?_)
          refine ge_goto (tgt := 56) DX5_formNamed_52 (by decide) ?_
          refine ge_sub [0, 2] rfl ?_
          exact hj56 m19 r20
        · refine ge_iconst (v := (0 : Int32)) DX5_formNamed_55 rfl ?_
          refine ge_sub [0, 2] rfl ?_
          exact hj56 m12 (0 : Int32)
    · refine ge_sub [0, 1] rfl ?_
      exact hk73 m1 x2
set_option maxHeartbeats 4000000 in
set_option maxRecDepth 100000 in
theorem okX5_formNamed (l : Launch) (X : Xt) (m0 : Mem) : Ct l yX5_formNamed cX5_formNamed 3 (some .int) rmX5_formNamed ιI X [.ref (xad X 295)] m0 (fX5_formNamed m0) := by
  refine ct_of (own := RX5) (ls := [(0, .ref (xad X 295))]) (by decide) rfl rfl (Nat.le_of_ble_eq_true rfl) (fun K => ?_)
  show gX5_formNamed K X 0 0 0 [(0, .ref (xad X 295))] [] m0 (fX5_formNamed m0)
  delta fX5_formNamed
  refine ge_iconst (v := (0 : Int32)) DX5_formNamed_0 rfl ?_
  refine ge_istore_n (ls' := [(1, .int (0 : Int32)), (0, .ref (xad X 295))]) DX5_formNamed_1 (by decide) rfl ?_
  refine ge_iconst (v := (0 : Int32)) DX5_formNamed_2 rfl ?_
  refine ge_istore_n (ls' := [(2, .int (0 : Int32)), (1, .int (0 : Int32)), (0, .ref (xad X 295))]) DX5_formNamed_3 (by decide) rfl ?_
  refine ge_sub [2, 1, 0] rfl ?_
  refine lX5_formNamed_L4 K X  (fun m6 x7 => ?_) 5000 m0 (0 : Int32) (0 : Int32)
  · refine ge_iload_n 1 DX5_formNamed_73 rfl ?_
    refine ge_if_ne (tgt := 81) DX5_formNamed_74 (by decide) ?_ ?_
    · refine ge_iconst (v := (-1 : Int32)) DX5_formNamed_77 rfl ?_
      refine ge_goto (tgt := 96) DX5_formNamed_78 (by decide) ?_
      exact ge_iret rfl DX5_formNamed_96
    · refine ge_aload_n 0 DX5_formNamed_81 rfl ?_
      refine ge_getR (i := 9) DX5_formNamed_82 fl_X5_22 is_295 (by decide) rfl ?_
      refine ge_iload_n 1 DX5_formNamed_85 rfl ?_
      refine ge_aload_n 0 DX5_formNamed_86 rfl ?_
      refine ge_getR (i := 9) DX5_formNamed_87 fl_X5_22 is_295 (by decide) rfl ?_
      refine ge_getI DX5_formNamed_90 fl_X5_70 is_9 (by decide) rfl ?_
      refine ge_callVi0 (st := []) cm_X5_73 DX5_formNamed_93 is_9 rfl (okX4_find (kl K) X m6 x7 (m6 9 1)) rfl rfl (Nat.le_of_ble_eq_true rfl) (by decide) ⟨rfl, rfl⟩ ⟨Nat.zero_le _, Nat.zero_le _⟩ (fun r9 m8 => ?_)
      exact ge_iret rfl DX5_formNamed_96
abbrev gX10_isDigit (K : Kt) (X : Xt) := GE (R := Int32) K rmX10_isDigit X cX10_isDigit 1 RX10 (some .boolean) (finM K X ιI 0 0)
set_option maxHeartbeats 4000000 in
set_option maxRecDepth 100000 in
theorem okX10_isDigit (l : Launch) (X : Xt) (m0 : Mem) (a0 : Int32) : Ct l yX10_isDigit cX10_isDigit 1 (some .boolean) rmX10_isDigit ιI X [.int a0] m0 (fX10_isDigit m0 a0) := by
  refine ct_of (own := RX10) (ls := [(0, .int a0)]) (by decide) rfl rfl (Nat.le_of_ble_eq_true rfl) (fun K => ?_)
  show gX10_isDigit K X 0 0 0 [(0, .int a0)] [] m0 (fX10_isDigit m0 a0)
  delta fX10_isDigit
  refine ge_iload_n 0 DX10_isDigit_0 rfl ?_
  refine ge_bipush (v := (48 : Int32)) DX10_isDigit_1 rfl ?_
  refine ge_icmp_lt (tgt := 16) DX10_isDigit_3 (by decide) ?_ ?_
  · refine ge_iconst (v := (0 : Int32)) DX10_isDigit_16 rfl ?_
    exact ge_zretc rfl rfl DX10_isDigit_17
  · refine ge_iload_n 0 DX10_isDigit_6 rfl ?_
    refine ge_bipush (v := (57 : Int32)) DX10_isDigit_7 rfl ?_
    refine ge_icmp_gt (tgt := 16) DX10_isDigit_9 (by decide) ?_ ?_
    · refine ge_iconst (v := (0 : Int32)) DX10_isDigit_16 rfl ?_
      exact ge_zretc rfl rfl DX10_isDigit_17
    · refine ge_iconst (v := (1 : Int32)) DX10_isDigit_12 rfl ?_
      refine ge_goto (tgt := 17) DX10_isDigit_13 (by decide) ?_
      exact ge_zretc rfl rfl DX10_isDigit_17
abbrev gX5_number (K : Kt) (X : Xt) := GE (R := Int32) K rmX5_number X cX5_number 6 RX5 (some .boolean) (finM K X ιI 0 0)
set_option maxHeartbeats 4000000 in
set_option maxRecDepth 100000 in
theorem lX5_number_L66 (K : Kt) (X : Xt) {k127 : Mem → Int32 → Option (Int32 × Mem)} (q11 : Nat) (y12 : Int32) (y13 : Int32) (hq11 : Is 2 q11) (hk127 : ∀ (m16 : Mem) (x17 : Int32), gX5_number K X 0 0 127 [(0, .ref (xad X 295)), (1, .ref (xad X q11)), (2, .int y12), (3, .int y13), (4, .int x17)] [] m16 (k127 m16 x17)) :
    ∀ (n : Nat) (m10 : Mem) (x14 : Int32) (x15 : Int32), gX5_number K X 0 0 66 [(0, .ref (xad X 295)), (1, .ref (xad X q11)), (2, .int y12), (3, .int y13), (4, .int x14), (5, .int x15)] [] m10 (fX5_number_L66 k127 q11 y12 y13 n m10 x14 x15) := by
  intro n
  induction n with
  | zero => intro m10 x14 x15; exact ge_none
  | succ n ih =>
    intro m10 x14 x15
    show gX5_number K X 0 0 66 [(0, .ref (xad X 295)), (1, .ref (xad X q11)), (2, .int y12), (3, .int y13), (4, .int x14), (5, .int x15)] [] m10 (fX5_number_L66_b k127 q11 y12 y13 (fX5_number_L66 k127 q11 y12 y13 n) m10 x14 x15)
    delta fX5_number_L66_b
    refine ge_iload 5 DX5_number_66 rfl ?_
    refine ge_iconst (v := (3 : Int32)) DX5_number_68 rfl ?_
    refine ge_icmp_ge (tgt := 127) DX5_number_69 (by decide) ?_ ?_
    · refine ge_aload_n 0 DX5_number_72 rfl ?_
      refine ge_getR (i := 281) DX5_number_73 fl_X5_18 is_295 (by decide) rfl ?_
      refine ge_aload_n 0 DX5_number_76 rfl ?_
      refine ge_getI DX5_number_77 fl_X5_9 is_295 (by decide) rfl ?_
      refine ge_callVi0 (st := []) cm_X5_59 DX5_number_80 is_281 rfl (okX0_at (kl K) X 281 is_281 m10 (m10 295 3)) rfl rfl (Nat.le_of_ble_eq_true rfl) (by decide) ⟨rfl, rfl⟩ ⟨Nat.zero_le _, Nat.zero_le _⟩ (fun r29 m28 => ?_)
      refine ge_callSi0 (st := []) cm_X5_92 DX5_number_83 (okX10_isDigit (kl K) X m28 r29) rfl rfl (Nat.le_of_ble_eq_true rfl) (by decide) ⟨rfl, rfl⟩ ⟨Nat.zero_le _, Nat.zero_le _⟩ (fun r31 m30 => ?_)
      refine ge_if_eq (tgt := 127) DX5_number_86 (by decide) ?_ ?_
      · refine ge_sub [0, 1, 2, 3, 4] rfl ?_
        exact hk127 m30 x14
      · refine ge_bipush (v := (10 : Int32)) DX5_number_89 rfl ?_
        refine ge_iload 4 DX5_number_91 rfl ?_
        refine ge_imul DX5_number_93 ?_
        refine ge_aload_n 0 DX5_number_94 rfl ?_
        refine ge_getR (i := 281) DX5_number_95 fl_X5_18 is_295 (by decide) rfl ?_
        refine ge_aload_n 0 DX5_number_98 rfl ?_
        refine ge_getI DX5_number_99 fl_X5_9 is_295 (by decide) rfl ?_
        refine ge_callVi0 (st := [.int ((10 : Int32) * x14)]) cm_X5_59 DX5_number_102 is_281 rfl (okX0_at (kl K) X 281 is_281 m30 (m30 295 3)) rfl rfl (Nat.le_of_ble_eq_true rfl) (by decide) ⟨rfl, rfl⟩ ⟨Nat.zero_le _, Nat.zero_le _⟩ (fun r33 m32 => ?_)
        refine ge_iadd DX5_number_105 ?_
        refine ge_bipush (v := (48 : Int32)) DX5_number_106 rfl ?_
        refine ge_isub DX5_number_108 ?_
        refine ge_topi (fun x34 => ?_)
        refine ge_istore (ls' := [(4, .int x34), (0, .ref (xad X 295)), (1, .ref (xad X q11)), (2, .int y12), (3, .int y13), (5, .int x15)]) DX5_number_109 (by decide) rfl ?_
        refine ge_aload_n 1 DX5_number_111 rfl ?_
        refine ge_dup DX5_number_112 rfl ?_
        refine ge_getI DX5_number_113 fl_X5_9 is_295 (by decide) rfl ?_
        refine ge_iconst (v := (1 : Int32)) DX5_number_116 rfl ?_
        refine ge_iadd DX5_number_117 ?_
        refine ge_put DX5_number_118 fp_X5_9 is_295 (by decide) rfl (fun m35 => ?_)
        refine ge_iinc 5 (v := (x15 + (1 : Int32))) (ls' := [(5, .int (x15 + (1 : Int32))), (4, .int x34), (0, .ref (xad X 295)), (1, .ref (xad X q11)), (2, .int y12), (3, .int y13)]) DX5_number_121 rfl rfl (by decide) rfl ?_
        refine ge_goto (tgt := 66) DX5_number_124 (by decide) ?_
        refine ge_sub [2, 3, 4, 5, 1, 0] rfl ?_
        exact ih m35 x34 (x15 + (1 : Int32))
    · refine ge_sub [0, 1, 2, 3, 4] rfl ?_
      exact hk127 m10 x14
set_option maxHeartbeats 4000000 in
set_option maxRecDepth 100000 in
theorem okX5_number (l : Launch) (X : Xt) (m0 : Mem) (a1 : Nat) (ha1 : Is 2 a1) : Ct l yX5_number cX5_number 6 (some .boolean) rmX5_number ιI X [.ref (xad X 295), .ref (xad X a1)] m0 (fX5_number m0 a1) := by
  refine ct_of (own := RX5) (ls := [(0, .ref (xad X 295)), (1, .ref (xad X a1))]) (by decide) rfl rfl (Nat.le_of_ble_eq_true rfl) (fun K => ?_)
  show gX5_number K X 0 0 0 [(0, .ref (xad X 295)), (1, .ref (xad X a1))] [] m0 (fX5_number m0 a1)
  delta fX5_number
  refine ge_aload_n 0 DX5_number_0 rfl ?_
  refine ge_getI DX5_number_1 fl_X5_9 is_295 (by decide) rfl ?_
  refine ge_topi (fun x1 => ?_)
  refine ge_istore_n (ls' := [(2, .int x1), (0, .ref (xad X 295)), (1, .ref (xad X a1))]) DX5_number_4 (by decide) rfl ?_
  refine ge_aload_n 1 DX5_number_5 rfl ?_
  refine ge_getR (i := 281) DX5_number_6 fl_X5_18 is_295 (by decide) rfl ?_
  refine ge_aload_n 1 DX5_number_9 rfl ?_
  refine ge_getI DX5_number_10 fl_X5_9 is_295 (by decide) rfl ?_
  refine ge_callVi0 (st := []) cm_X5_59 DX5_number_13 is_281 rfl (okX0_at (kl K) X 281 is_281 m0 (m0 295 3)) rfl rfl (Nat.le_of_ble_eq_true rfl) (by decide) ⟨rfl, rfl⟩ ⟨Nat.zero_le _, Nat.zero_le _⟩ (fun r3 m2 => ?_)
  refine ge_bipush (v := (45 : Int32)) DX5_number_16 rfl ?_
  refine ge_jn (P := fun k => ∀ (v4 : Int32), gX5_number K X 0 0 26 [(0, .ref (xad X 295)), (1, .ref (xad X a1)), (2, .int x1)] [.int v4] m2 (k v4)) (fun v4 => ?_) (fun j26 hj26 => ?_)
  · refine ge_istore_n (ls' := [(3, .int v4), (0, .ref (xad X 295)), (1, .ref (xad X a1)), (2, .int x1)]) DX5_number_26 (by decide) rfl ?_
    refine ge_iload_n 0 DX5_number_27 rfl ?_
    refine ge_jn (P := fun k => ∀ (m5 : Mem), gX5_number K X 0 0 41 [(0, .ref (xad X 295)), (1, .ref (xad X a1)), (2, .int x1), (3, .int v4)] [] m5 (k m5)) (fun m5 => ?_) (fun j41 hj41 => ?_)
    · refine ge_aload_n 0 DX5_number_41 rfl ?_
      refine ge_getR (i := 281) DX5_number_42 fl_X5_18 is_295 (by decide) rfl ?_
      refine ge_aload_n 0 DX5_number_45 rfl ?_
      refine ge_getI DX5_number_46 fl_X5_9 is_295 (by decide) rfl ?_
      refine ge_callVi0 (st := []) cm_X5_59 DX5_number_49 is_281 rfl (okX0_at (kl K) X 281 is_281 m5 (m5 295 3)) rfl rfl (Nat.le_of_ble_eq_true rfl) (by decide) ⟨rfl, rfl⟩ ⟨Nat.zero_le _, Nat.zero_le _⟩ (fun r7 m6 => ?_)
      refine ge_callSi0 (st := []) cm_X5_92 DX5_number_52 (okX10_isDigit (kl K) X m6 r7) rfl rfl (Nat.le_of_ble_eq_true rfl) (by decide) ⟨rfl, rfl⟩ ⟨Nat.zero_le _, Nat.zero_le _⟩ (fun r9 m8 => ?_)
      refine ge_if_ne (tgt := 60) DX5_number_55 (by decide) ?_ ?_
      · refine ge_iconst (v := (0 : Int32)) DX5_number_58 rfl ?_
        exact ge_zretc rfl rfl DX5_number_59
      · refine ge_iconst (v := (0 : Int32)) DX5_number_60 rfl ?_
        refine ge_istore (ls' := [(4, .int (0 : Int32)), (0, .ref (xad X 295)), (1, .ref (xad X a1)), (2, .int x1), (3, .int v4)]) DX5_number_61 (by decide) rfl ?_
        refine ge_iconst (v := (0 : Int32)) DX5_number_63 rfl ?_
        refine ge_istore (ls' := [(5, .int (0 : Int32)), (4, .int (0 : Int32)), (0, .ref (xad X 295)), (1, .ref (xad X a1)), (2, .int x1), (3, .int v4)]) DX5_number_64 (by decide) rfl ?_
        refine ge_sub [2, 3, 4, 5, 1, 0] rfl ?_
        refine lX5_number_L66 K X a1 x1 v4 ha1 (fun m18 x19 => ?_) 5000 m8 (0 : Int32) (0 : Int32)
        · refine ge_iload_n 3 DX5_number_127 rfl ?_
          refine ge_jn (P := fun k => ∀ (x20 : Int32), gX5_number K X 0 0 136 [(0, .ref (xad X 295)), (1, .ref (xad X a1)), (2, .int x1), (4, .int x20)] [] m18 (k x20)) (fun x20 => ?_) (fun j136 hj136 => ?_)
          · refine ge_aload_n 1 DX5_number_136 rfl ?_
            refine ge_iload 3 DX5_number_137 rfl ?_
            refine ge_callVi0 (st := []) cm_X5_95 DX5_number_139 ha1 rfl (okX2_canHold (kl K) X a1 ha1 m18 x20) rfl rfl (Nat.le_of_ble_eq_true rfl) (by decide) ⟨rfl, rfl⟩ ⟨Nat.zero_le _, Nat.zero_le _⟩ (fun r22 m21 => ?_)
            refine ge_if_ne (tgt := 152) DX5_number_142 (by decide) ?_ ?_
            · refine ge_aload_n 0 DX5_number_145 rfl ?_
              refine ge_iload_n 2 DX5_number_146 rfl ?_
              refine ge_put DX5_number_147 fp_X5_9 is_295 (by decide) rfl (fun m23 => ?_)
              refine ge_iconst (v := (0 : Int32)) DX5_number_150 rfl ?_
              exact ge_zretc rfl rfl DX5_number_151
            · refine ge_aload_n 0 DX5_number_152 rfl ?_
              refine ge_aload_n 1 DX5_number_153 rfl ?_
              refine ge_aload_n 0 DX5_number_154 rfl ?_
              refine ge_getI DX5_number_155 fl_X5_15 is_295 (by decide) rfl ?_
              refine ge_iload 3 DX5_number_158 rfl ?_
              refine ge_callVi0 (st := [.ref (xad X 295)]) cm_X5_100 DX5_number_160 ha1 rfl (okX2_putInto (kl K) X a1 ha1 m21 (m21 295 4) x20) rfl rfl (Nat.le_of_ble_eq_true rfl) (by decide) ⟨rfl, rfl⟩ ⟨Nat.zero_le _, Nat.zero_le _⟩ (fun r25 m24 => ?_)
              refine ge_put DX5_number_163 fp_X5_15 is_295 (by decide) rfl (fun m26 => ?_)
              refine ge_iconst (v := (1 : Int32)) DX5_number_166 rfl ?_
              exact ge_zretc rfl rfl DX5_number_167
          refine ge_if_eq (tgt := 136) DX5_number_128 (by decide) ?_ ?_
          · refine ge_sub [0, 1, 2, 4] rfl ?_
            exact hj136 x19
          · refine ge_iload 4 DX5_number_131 rfl ?_
            refine ge_ineg DX5_number_133 ?_
            refine ge_topi (fun x27 => ?_)
            refine ge_istore (ls' := [(4, .int x27), (0, .ref (xad X 295)), (1, .ref (xad X a1)), (2, .int x1), (3, .int v4)]) DX5_number_134 (by decide) rfl ?_
            refine ge_sub [1, 2, 3, 0] rfl ?_
            exact hj136 x27
    refine ge_if_eq (tgt := 41) DX5_number_28 (by decide) ?_ ?_
    · refine ge_sub [1, 2, 3, 0] rfl ?_
      exact hj41 m2
    · refine ge_aload_n 1 DX5_number_31 rfl ?_
      refine ge_dup DX5_number_32 rfl ?_
      refine ge_getI DX5_number_33 fl_X5_9 is_295 (by decide) rfl ?_
      refine ge_iconst (v := (1 : Int32)) DX5_number_36 rfl ?_
      refine ge_iadd DX5_number_37 ?_
      refine ge_put DX5_number_38 fp_X5_9 is_295 (by decide) rfl (fun m36 => ?_)
      refine ge_sub [1, 2, 3, 0] rfl ?_
      exact hj41 m36
  refine ge_icmp_ne (tgt := 25) DX5_number_18 (by decide) ?_ ?_
  · refine ge_iconst (v := (1 : Int32)) DX5_number_21 rfl ?_
    refine ge_goto (tgt := 26) DX5_number_22 (by decide) ?_
    refine ge_sub [1, 2, 0] rfl ?_
    exact hj26 (1 : Int32)
  · refine ge_iconst (v := (0 : Int32)) DX5_number_25 rfl ?_
    refine ge_sub [1, 2, 0] rfl ?_
    exact hj26 (0 : Int32)
abbrev gX5_numbers (K : Kt) (X : Xt) := GE (R := Int32) K rmX5_numbers X cX5_numbers 3 RX5 (some .boolean) (finM K X ιI 0 0)
set_option maxHeartbeats 4000000 in
set_option maxRecDepth 100000 in
theorem lX5_numbers_L10 (K : Kt) (X : Xt) {k34 : Mem → Option (Int32 × Mem)} {k58 : Mem → Option (Int32 × Mem)} {k66 : Mem → Option (Int32 × Mem)} (q3 : Nat) (hq3 : Is 3 q3) (hk34 : ∀ (m5 : Mem), gX5_numbers K X 0 0 34 [] [] m5 (k34 m5)) (hk58 : ∀ (m7 : Mem), gX5_numbers K X 0 0 58 [] [] m7 (k58 m7)) (hk66 : ∀ (m9 : Mem), gX5_numbers K X 0 0 66 [] [] m9 (k66 m9)) :
    ∀ (n : Nat) (m2 : Mem) (x4 : Int32), gX5_numbers K X 0 0 10 [(0, .ref (xad X 295)), (1, .ref (xad X q3)), (2, .int x4)] [] m2 (fX5_numbers_L10 k34 k58 k66 q3 n m2 x4) := by
  intro n
  induction n with
  | zero => intro m2 x4; exact ge_none
  | succ n ih =>
    intro m2 x4
    show gX5_numbers K X 0 0 10 [(0, .ref (xad X 295)), (1, .ref (xad X q3)), (2, .int x4)] [] m2 (fX5_numbers_L10_b k34 k58 k66 q3 (fX5_numbers_L10 k34 k58 k66 q3 n) m2 x4)
    delta fX5_numbers_L10_b
    refine ge_iload_n 2 DX5_numbers_10 rfl ?_
    refine ge_aload_n 1 DX5_numbers_11 rfl ?_
    refine ge_getI DX5_numbers_12 fl_X5_81 hq3 (by decide) rfl ?_
    refine ge_icmp_ge (tgt := 66) DX5_numbers_15 (by decide) ?_ ?_
    · refine ge_aload_n 0 DX5_numbers_18 rfl ?_
      refine ge_getR (i := 281) DX5_numbers_19 fl_X5_18 is_295 (by decide) rfl ?_
      refine ge_aload_n 0 DX5_numbers_22 rfl ?_
      refine ge_getI DX5_numbers_23 fl_X5_9 is_295 (by decide) rfl ?_
      refine ge_callVi0 (st := []) cm_X5_59 DX5_numbers_26 is_281 rfl (okX0_at (kl K) X 281 is_281 m2 (m2 295 3)) rfl rfl (Nat.le_of_ble_eq_true rfl) (by decide) ⟨rfl, rfl⟩ ⟨Nat.zero_le _, Nat.zero_le _⟩ (fun r12 m11 => ?_)
      refine ge_bipush (v := (32 : Int32)) DX5_numbers_29 rfl ?_
      refine ge_icmp_eq (tgt := 36) DX5_numbers_31 (by decide) ?_ ?_
      · refine ge_aload_n 0 DX5_numbers_36 rfl ?_
        refine ge_dup DX5_numbers_37 rfl ?_
        refine ge_getI DX5_numbers_38 fl_X5_9 is_295 (by decide) rfl ?_
        refine ge_iconst (v := (1 : Int32)) DX5_numbers_41 rfl ?_
        refine ge_iadd DX5_numbers_42 ?_
        refine ge_put DX5_numbers_43 fp_X5_9 is_295 (by decide) rfl (fun m13 => ?_)
        refine ge_aload_n 0 DX5_numbers_46 rfl ?_
        refine ge_aload_n 1 DX5_numbers_47 rfl ?_
        refine ge_iload_n 2 DX5_numbers_48 rfl ?_
        refine ge_callVr0 (st := [.ref (xad X 295)]) cm_X5_84 DX5_numbers_49 hq3 rfl (okX3_fieldAt (kl K) X q3 hq3 m13 x4) rfl rfl (Nat.le_of_ble_eq_true rfl) (by decide) ⟨rfl, rfl⟩ ⟨Nat.zero_le _, Nat.zero_le _⟩ (fun r15 m14 hr15 => ?_)
        refine ge_callVi0 (st := []) cm_X5_88 DX5_numbers_52 is_295 rfl (okX5_number (kl K) X m14 r15 hr15) rfl rfl (Nat.le_of_ble_eq_true rfl) (by decide) ⟨rfl, rfl⟩ ⟨Nat.zero_le _, Nat.zero_le _⟩ (fun r17 m16 => ?_)
        refine ge_if_ne (tgt := 60) DX5_numbers_55 (by decide) ?_ ?_
        · refine ge_sub [] rfl ?_
          exact hk58 m16
        · refine ge_iinc 2 (v := (x4 + (1 : Int32))) (ls' := [(2, .int (x4 + (1 : Int32))), (0, .ref (xad X 295)), (1, .ref (xad X q3))]) DX5_numbers_60 rfl rfl (by decide) rfl ?_
          refine ge_goto (tgt := 10) DX5_numbers_63 (by decide) ?_
          refine ge_sub [1, 2, 0] rfl ?_
          exact ih m16 (x4 + (1 : Int32))
      · refine ge_sub [] rfl ?_
        exact hk34 m11
    · refine ge_sub [] rfl ?_
      exact hk66 m2
set_option maxHeartbeats 4000000 in
set_option maxRecDepth 100000 in
theorem okX5_numbers (l : Launch) (X : Xt) (m0 : Mem) (a1 : Nat) (ha1 : Is 3 a1) : Ct l yX5_numbers cX5_numbers 3 (some .boolean) rmX5_numbers ιI X [.ref (xad X 295), .ref (xad X a1)] m0 (fX5_numbers m0 a1) := by
  refine ct_of (own := RX5) (ls := [(0, .ref (xad X 295)), (1, .ref (xad X a1))]) (by decide) rfl rfl (Nat.le_of_ble_eq_true rfl) (fun K => ?_)
  show gX5_numbers K X 0 0 0 [(0, .ref (xad X 295)), (1, .ref (xad X a1))] [] m0 (fX5_numbers m0 a1)
  delta fX5_numbers
  refine ge_aload_n 0 DX5_numbers_0 rfl ?_
  refine ge_aload_n 1 DX5_numbers_1 rfl ?_
  refine ge_getI DX5_numbers_2 fl_X5_76 ha1 (by decide) rfl ?_
  refine ge_put DX5_numbers_5 fp_X5_15 is_295 (by decide) rfl (fun m1 => ?_)
  refine ge_iconst (v := (0 : Int32)) DX5_numbers_8 rfl ?_
  refine ge_istore_n (ls' := [(2, .int (0 : Int32)), (0, .ref (xad X 295)), (1, .ref (xad X a1))]) DX5_numbers_9 (by decide) rfl ?_
  refine ge_sub [1, 2, 0] rfl ?_
  refine lX5_numbers_L10 K X a1 ha1 (fun m6 => ?_) (fun m8 => ?_) (fun m10 => ?_) 5000 m1 (0 : Int32)
  · refine ge_iconst (v := (0 : Int32)) DX5_numbers_34 rfl ?_
    exact ge_zretc rfl rfl DX5_numbers_35
  · refine ge_iconst (v := (0 : Int32)) DX5_numbers_58 rfl ?_
    exact ge_zretc rfl rfl DX5_numbers_59
  · refine ge_iconst (v := (1 : Int32)) DX5_numbers_66 rfl ?_
    exact ge_zretc rfl rfl DX5_numbers_67
abbrev gX6_meaningAmong (K : Kt) (X : Xt) := GE (R := Int32) K rmX6_meaningAmong X cX6_meaningAmong 4 RX6 (some .int) (finM K X ιI 0 0)
set_option maxHeartbeats 4000000 in
set_option maxRecDepth 100000 in
theorem lX6_meaningAmong_L9 (K : Kt) (X : Xt) {k47 : Int32 → Option (Int32 × Mem)} {k55 : Option (Int32 × Mem)} (m1 : Mem) (y2 : Int32)  (hk47 : ∀ (x4 : Int32), gX6_meaningAmong K X 0 0 47 [(2, .int x4)] [] m1 (k47 x4)) (hk55 : gX6_meaningAmong K X 0 0 55 [] [] m1 (k55)) :
    ∀ (n : Nat) (x3 : Int32), gX6_meaningAmong K X 0 0 9 [(0, .ref (xad X 275)), (1, .int y2), (2, .int x3)] [] m1 (fX6_meaningAmong_L9 k47 k55 m1 y2 n x3) := by
  intro n
  induction n with
  | zero => intro x3; exact ge_none
  | succ n ih =>
    intro x3
    show gX6_meaningAmong K X 0 0 9 [(0, .ref (xad X 275)), (1, .int y2), (2, .int x3)] [] m1 (fX6_meaningAmong_L9_b k47 k55 m1 y2 (fX6_meaningAmong_L9 k47 k55 m1 y2 n) x3)
    delta fX6_meaningAmong_L9_b
    refine ge_iload_n 2 DX6_meaningAmong_9 rfl ?_
    refine ge_aload_n 0 DX6_meaningAmong_10 rfl ?_
    refine ge_getR (i := 9) DX6_meaningAmong_11 fl_X6_35 is_275 (by decide) rfl ?_
    refine ge_getI DX6_meaningAmong_14 fl_X6_45 is_9 (by decide) rfl ?_
    refine ge_icmp_ge (tgt := 55) DX6_meaningAmong_17 (by decide) ?_ ?_
    · refine ge_iconst (v := (1 : Int32)) DX6_meaningAmong_20 rfl ?_
      refine ge_iload_n 2 DX6_meaningAmong_21 rfl ?_
      refine ge_ishl DX6_meaningAmong_22 ?_
      refine ge_topi (fun x6 => ?_)
      refine ge_istore_n (ls' := [(3, .int x6), (0, .ref (xad X 275)), (1, .int y2), (2, .int x3)]) DX6_meaningAmong_23 (by decide) rfl ?_
      refine ge_iload_n 2 DX6_meaningAmong_24 rfl ?_
      refine ge_iload_n 0 DX6_meaningAmong_25 rfl ?_
      refine ge_iand DX6_meaningAmong_26 ?_
      refine ge_jn (P := fun k => gX6_meaningAmong K X 0 0 49 [(0, .ref (xad X 275)), (1, .int y2), (2, .int x3)] [] m1 k) ?_ (fun j49 hj49 => ?_)
      · refine ge_iinc 2 (v := (x3 + (1 : Int32))) (ls' := [(2, .int (x3 + (1 : Int32))), (0, .ref (xad X 275)), (1, .int y2)]) DX6_meaningAmong_49 rfl rfl (by decide) rfl ?_
        refine ge_goto (tgt := 9) DX6_meaningAmong_52 (by decide) ?_
        refine ge_sub [1, 2, 0] rfl ?_
        exact ih (x3 + (1 : Int32))
      refine ge_if_eq (tgt := 49) DX6_meaningAmong_27 (by decide) ?_ ?_
      · refine ge_sub [1, 2, 3] rfl ?_
        exact hj49
      · refine ge_iload_n 2 DX6_meaningAmong_30 rfl ?_
        refine ge_iload_n 0 DX6_meaningAmong_31 rfl ?_
        refine ge_iconst (v := (-1 : Int32)) DX6_meaningAmong_32 rfl ?_
        refine ge_ixor DX6_meaningAmong_33 ?_
        refine ge_iand DX6_meaningAmong_34 ?_
        refine ge_aload_n 1 DX6_meaningAmong_35 rfl ?_
        refine ge_getR (i := 277) DX6_meaningAmong_36 fl_X6_15 is_275 (by decide) rfl ?_
        refine ge_iload_n 3 DX6_meaningAmong_39 rfl ?_
        refine ge_iald DX6_meaningAmong_40 is_277 al_277 ?_
        refine ge_iconst (v := (-1 : Int32)) DX6_meaningAmong_41 rfl ?_
        refine ge_ixor DX6_meaningAmong_42 ?_
        refine ge_iand DX6_meaningAmong_43 ?_
        refine ge_if_ne (tgt := 49) DX6_meaningAmong_44 (by decide) ?_ ?_
        · refine ge_sub [3] rfl ?_
          exact hk47 x3
        · refine ge_sub [1, 2, 3] rfl ?_
          exact hj49
    · refine ge_sub [] rfl ?_
      exact hk55
set_option maxHeartbeats 4000000 in
set_option maxRecDepth 100000 in
theorem okX6_meaningAmong (l : Launch) (X : Xt) (m0 : Mem) (a1 : Int32) : Ct l yX6_meaningAmong cX6_meaningAmong 4 (some .int) rmX6_meaningAmong ιI X [.ref (xad X 275), .int a1] m0 (fX6_meaningAmong m0 a1) := by
  refine ct_of (own := RX6) (ls := [(0, .ref (xad X 275)), (1, .int a1)]) (by decide) rfl rfl (Nat.le_of_ble_eq_true rfl) (fun K => ?_)
  show gX6_meaningAmong K X 0 0 0 [(0, .ref (xad X 275)), (1, .int a1)] [] m0 (fX6_meaningAmong m0 a1)
  delta fX6_meaningAmong
  refine ge_iload_n 1 DX6_meaningAmong_0 rfl ?_
  refine ge_if_ne (tgt := 7) DX6_meaningAmong_1 (by decide) ?_ ?_
  · refine ge_bipush (v := (12 : Int32)) DX6_meaningAmong_4 rfl ?_
    exact ge_iret rfl DX6_meaningAmong_6
  · refine ge_iconst (v := (0 : Int32)) DX6_meaningAmong_7 rfl ?_
    refine ge_istore_n (ls' := [(2, .int (0 : Int32)), (0, .ref (xad X 275)), (1, .int a1)]) DX6_meaningAmong_8 (by decide) rfl ?_
    refine ge_sub [1, 2, 0] rfl ?_
    refine lX6_meaningAmong_L9 K X m0 a1 (fun x5 => ?_) ?_ 5000 (0 : Int32)
    · refine ge_iload_n 0 DX6_meaningAmong_47 rfl ?_
      exact ge_iret rfl DX6_meaningAmong_48
    · refine ge_bipush (v := (13 : Int32)) DX6_meaningAmong_55 rfl ?_
      exact ge_iret rfl DX6_meaningAmong_57
abbrev gX6_knownOf (K : Kt) (X : Xt) := GE (R := Int32) K rmX6_knownOf X cX6_knownOf 5 RX6 (some .int) (finM K X ιI 0 0)
set_option maxHeartbeats 4000000 in
set_option maxRecDepth 100000 in
theorem lX6_knownOf_L20 (K : Kt) (X : Xt) {k62 : Mem → Int32 → Option (Int32 × Mem)} (y4 : Int32)  (hk62 : ∀ (m7 : Mem) (x8 : Int32), gX6_knownOf K X 0 0 62 [(0, .ref (xad X 275)), (2, .int y4), (3, .int x8)] [] m7 (k62 m7 x8)) :
    ∀ (n : Nat) (m3 : Mem) (x5 : Int32) (x6 : Int32), gX6_knownOf K X 0 0 20 [(0, .ref (xad X 275)), (2, .int y4), (3, .int x5), (4, .int x6)] [] m3 (fX6_knownOf_L20 k62 y4 n m3 x5 x6) := by
  intro n
  induction n with
  | zero => intro m3 x5 x6; exact ge_none
  | succ n ih =>
    intro m3 x5 x6
    show gX6_knownOf K X 0 0 20 [(0, .ref (xad X 275)), (2, .int y4), (3, .int x5), (4, .int x6)] [] m3 (fX6_knownOf_L20_b k62 y4 (fX6_knownOf_L20 k62 y4 n) m3 x5 x6)
    delta fX6_knownOf_L20_b
    refine ge_iload 3 DX6_knownOf_20 rfl ?_
    refine ge_aload_n 0 DX6_knownOf_22 rfl ?_
    refine ge_getR (i := 9) DX6_knownOf_23 fl_X6_35 is_275 (by decide) rfl ?_
    refine ge_getI DX6_knownOf_26 fl_X6_45 is_9 (by decide) rfl ?_
    refine ge_icmp_ge (tgt := 62) DX6_knownOf_29 (by decide) ?_ ?_
    · refine ge_aload_n 0 DX6_knownOf_32 rfl ?_
      refine ge_getR (i := 9) DX6_knownOf_33 fl_X6_35 is_275 (by decide) rfl ?_
      refine ge_getR (i := 10) DX6_knownOf_36 fl_X6_50 is_9 (by decide) rfl ?_
      refine ge_iload 3 DX6_knownOf_39 rfl ?_
      refine ge_aaldF DX6_knownOf_41 (fun hb14 => ?_)
      refine ge_iload_n 1 DX6_knownOf_42 rfl ?_
      refine ge_callVi0 (st := []) cm_X6_64 DX6_knownOf_43 (isF hb14) rfl (okX3_doesFit (kl K) X (11 + 22 * ix x6) (isF hb14) m3 y4) rfl rfl (Nat.le_of_ble_eq_true rfl) (by decide) ⟨rfl, rfl⟩ ⟨Nat.zero_le _, Nat.zero_le _⟩ (fun r16 m15 => ?_)
      refine ge_jn (P := fun k => ∀ (x17 : Int32), gX6_knownOf K X 0 0 56 [(0, .ref (xad X 275)), (2, .int y4), (3, .int x17), (4, .int x6)] [] m15 (k x17)) (fun x17 => ?_) (fun j56 hj56 => ?_)
      · refine ge_iinc 3 (v := (x6 + (1 : Int32))) (ls' := [(4, .int (x6 + (1 : Int32))), (0, .ref (xad X 275)), (2, .int y4), (3, .int x17)]) DX6_knownOf_56 rfl rfl (by decide) rfl ?_
        refine ge_goto (tgt := 20) DX6_knownOf_59 (by decide) ?_
        refine ge_sub [1, 2, 3, 0] rfl ?_
        exact ih m15 x17 (x6 + (1 : Int32))
      refine ge_if_eq (tgt := 56) DX6_knownOf_46 (by decide) ?_ ?_
      · exact hj56 x5
      · refine ge_iload_n 2 DX6_knownOf_49 rfl ?_
        refine ge_iconst (v := (1 : Int32)) DX6_knownOf_50 rfl ?_
        refine ge_iload 3 DX6_knownOf_51 rfl ?_
        refine ge_ishl DX6_knownOf_53 ?_
        refine ge_ior DX6_knownOf_54 ?_
        refine ge_topi (fun x18 => ?_)
        refine ge_istore_n (ls' := [(3, .int x18), (0, .ref (xad X 275)), (2, .int y4), (4, .int x6)]) DX6_knownOf_55 (by decide) rfl ?_
        refine ge_sub [1, 2, 0, 3] rfl ?_
        exact hj56 x18
    · refine ge_sub [0, 1, 2] rfl ?_
      exact hk62 m3 x5
set_option maxHeartbeats 4000000 in
set_option maxRecDepth 100000 in
theorem okX6_knownOf (l : Launch) (X : Xt) (m0 : Mem) (a1 : Int32) : Ct l yX6_knownOf cX6_knownOf 5 (some .int) rmX6_knownOf ιI X [.ref (xad X 275), .int a1] m0 (fX6_knownOf m0 a1) := by
  refine ct_of (own := RX6) (ls := [(0, .ref (xad X 275)), (1, .int a1)]) (by decide) rfl rfl (Nat.le_of_ble_eq_true rfl) (fun K => ?_)
  show gX6_knownOf K X 0 0 0 [(0, .ref (xad X 275)), (1, .int a1)] [] m0 (fX6_knownOf m0 a1)
  delta fX6_knownOf
  refine ge_iload_n 1 DX6_knownOf_0 rfl ?_
  refine ge_sipush (v := (4095 : Int32)) DX6_knownOf_1 rfl ?_
  refine ge_iand DX6_knownOf_4 ?_
  refine ge_topi (fun x1 => ?_)
  refine ge_istore_n (ls' := [(2, .int x1), (0, .ref (xad X 275)), (1, .int a1)]) DX6_knownOf_5 (by decide) rfl ?_
  refine ge_aload_n 1 DX6_knownOf_6 rfl ?_
  refine ge_getR (i := 276) DX6_knownOf_7 fl_X6_9 is_275 (by decide) rfl ?_
  refine ge_iload_n 0 DX6_knownOf_10 rfl ?_
  refine ge_iald DX6_knownOf_11 is_276 al_276 ?_
  refine ge_jn (P := fun k => ∀ (m2 : Mem), gX6_knownOf K X 0 0 80 [(0, .ref (xad X 275)), (2, .int x1)] [] m2 (k m2)) (fun m2 => ?_) (fun j80 hj80 => ?_)
  · refine ge_aload_n 0 DX6_knownOf_80 rfl ?_
    refine ge_getR (i := 276) DX6_knownOf_81 fl_X6_9 is_275 (by decide) rfl ?_
    refine ge_iload_n 1 DX6_knownOf_84 rfl ?_
    refine ge_iald DX6_knownOf_85 is_276 al_276 ?_
    exact ge_iret rfl DX6_knownOf_86
  refine ge_if_ne (tgt := 80) DX6_knownOf_12 (by decide) ?_ ?_
  · refine ge_iconst (v := (0 : Int32)) DX6_knownOf_15 rfl ?_
    refine ge_istore_n (ls' := [(3, .int (0 : Int32)), (2, .int x1), (0, .ref (xad X 275)), (1, .int a1)]) DX6_knownOf_16 (by decide) rfl ?_
    refine ge_iconst (v := (0 : Int32)) DX6_knownOf_17 rfl ?_
    refine ge_istore (ls' := [(4, .int (0 : Int32)), (3, .int (0 : Int32)), (2, .int x1), (0, .ref (xad X 275)), (1, .int a1)]) DX6_knownOf_18 (by decide) rfl ?_
    refine ge_sub [3, 2, 1, 0] rfl ?_
    refine lX6_knownOf_L20 K X x1 (fun m9 x10 => ?_) 5000 m0 (0 : Int32) (0 : Int32)
    · refine ge_aload_n 0 DX6_knownOf_62 rfl ?_
      refine ge_getR (i := 276) DX6_knownOf_63 fl_X6_9 is_275 (by decide) rfl ?_
      refine ge_iload_n 1 DX6_knownOf_66 rfl ?_
      refine ge_iconst (v := (1 : Int32)) DX6_knownOf_67 rfl ?_
      refine ge_aload_n 0 DX6_knownOf_68 rfl ?_
      refine ge_iload_n 2 DX6_knownOf_69 rfl ?_
      refine ge_callVi0 (st := [.int (1 : Int32), .int x1, .ref (xad X 276)]) cm_X6_68 DX6_knownOf_70 is_275 rfl (okX6_meaningAmong (kl K) X m9 x10) rfl rfl (Nat.le_of_ble_eq_true rfl) (by decide) ⟨rfl, rfl⟩ ⟨Nat.zero_le _, Nat.zero_le _⟩ (fun r12 m11 => ?_)
      refine ge_iadd DX6_knownOf_73 ?_
      refine ge_bipush (v := (12 : Int32)) DX6_knownOf_74 rfl ?_
      refine ge_ishl DX6_knownOf_76 ?_
      refine ge_iload_n 2 DX6_knownOf_77 rfl ?_
      refine ge_ior DX6_knownOf_78 ?_
      refine ge_iast DX6_knownOf_79 is_276 al_276 (fun m13 => ?_)
      refine ge_sub [0, 1] rfl ?_
      exact hj80 m13
  · refine ge_sub [1, 0] rfl ?_
    exact hj80 m0
abbrev gX6_meaningOf (K : Kt) (X : Xt) := GE (R := Int32) K rmX6_meaningOf X cX6_meaningOf 2 RX6 (some .int) (finM K X ιI 0 0)
set_option maxHeartbeats 4000000 in
set_option maxRecDepth 100000 in
theorem okX6_meaningOf (l : Launch) (X : Xt) (m0 : Mem) (a1 : Int32) : Ct l yX6_meaningOf cX6_meaningOf 2 (some .int) rmX6_meaningOf ιI X [.ref (xad X 275), .int a1] m0 (fX6_meaningOf m0 a1) := by
  refine ct_of (own := RX6) (ls := [(0, .ref (xad X 275)), (1, .int a1)]) (by decide) rfl rfl (Nat.le_of_ble_eq_true rfl) (fun K => ?_)
  show gX6_meaningOf K X 0 0 0 [(0, .ref (xad X 275)), (1, .int a1)] [] m0 (fX6_meaningOf m0 a1)
  delta fX6_meaningOf
  refine ge_aload_n 0 DX6_meaningOf_0 rfl ?_
  refine ge_iload_n 1 DX6_meaningOf_1 rfl ?_
  refine ge_callVi0 (st := []) cm_X6_60 DX6_meaningOf_2 is_275 rfl (okX6_knownOf (kl K) X m0 a1) rfl rfl (Nat.le_of_ble_eq_true rfl) (by decide) ⟨rfl, rfl⟩ ⟨Nat.zero_le _, Nat.zero_le _⟩ (fun r2 m1 => ?_)
  refine ge_bipush (v := (12 : Int32)) DX6_meaningOf_5 rfl ?_
  refine ge_ishr DX6_meaningOf_7 ?_
  refine ge_iconst (v := (1 : Int32)) DX6_meaningOf_8 rfl ?_
  refine ge_isub DX6_meaningOf_9 ?_
  exact ge_iret rfl DX6_meaningOf_10
abbrev gX5_wordOrFault (K : Kt) (X : Xt) := GE (R := Int32) K rmX5_wordOrFault X cX5_wordOrFault 2 RX5 (some .int) (finM K X ιI 0 0)
set_option maxHeartbeats 4000000 in
set_option maxRecDepth 100000 in
theorem okX5_wordOrFault (l : Launch) (X : Xt) (m0 : Mem) : Ct l yX5_wordOrFault cX5_wordOrFault 2 (some .int) rmX5_wordOrFault ιI X [.ref (xad X 295)] m0 (fX5_wordOrFault m0) := by
  refine ct_of (own := RX5) (ls := [(0, .ref (xad X 295))]) (by decide) rfl rfl (Nat.le_of_ble_eq_true rfl) (fun K => ?_)
  show gX5_wordOrFault K X 0 0 0 [(0, .ref (xad X 295))] [] m0 (fX5_wordOrFault m0)
  delta fX5_wordOrFault
  refine ge_aload_n 0 DX5_wordOrFault_0 rfl ?_
  refine ge_iconst (v := (0 : Int32)) DX5_wordOrFault_1 rfl ?_
  refine ge_put DX5_wordOrFault_2 fp_X5_9 is_295 (by decide) rfl (fun m1 => ?_)
  refine ge_aload_n 0 DX5_wordOrFault_5 rfl ?_
  refine ge_callVi0 (st := []) cm_X5_30 DX5_wordOrFault_6 is_295 rfl (okX5_formNamed (kl K) X m1) rfl rfl (Nat.le_of_ble_eq_true rfl) (by decide) ⟨rfl, rfl⟩ ⟨Nat.zero_le _, Nat.zero_le _⟩ (fun r3 m2 => ?_)
  refine ge_istore_n (ls' := [(1, .int r3), (0, .ref (xad X 295))]) DX5_wordOrFault_9 (by decide) rfl ?_
  refine ge_aload_n 1 DX5_wordOrFault_10 rfl ?_
  refine ge_getR (i := 9) DX5_wordOrFault_11 fl_X5_22 is_295 (by decide) rfl ?_
  refine ge_iload_n 0 DX5_wordOrFault_14 rfl ?_
  refine ge_callVi0 (st := []) cm_X5_34 DX5_wordOrFault_15 is_9 rfl (okX4_has (kl K) X m2 r3) rfl rfl (Nat.le_of_ble_eq_true rfl) (by decide) ⟨rfl, rfl⟩ ⟨Nat.zero_le _, Nat.zero_le _⟩ (fun r5 m4 => ?_)
  refine ge_jn (P := fun k => ∀ (m6 : Mem), gX5_wordOrFault K X 0 0 51 [(0, .ref (xad X 295))] [] m6 (k m6)) (fun m6 => ?_) (fun j51 hj51 => ?_)
  · refine ge_bipush (v := (-10 : Int32)) DX5_wordOrFault_51 rfl ?_
    refine ge_aload_n 0 DX5_wordOrFault_53 rfl ?_
    refine ge_getI DX5_wordOrFault_54 fl_X5_9 is_295 (by decide) rfl ?_
    refine ge_isub DX5_wordOrFault_57 ?_
    exact ge_iret rfl DX5_wordOrFault_58
  refine ge_if_eq (tgt := 51) DX5_wordOrFault_18 (by decide) ?_ ?_
  · refine ge_sub [1] rfl ?_
    exact hj51 m4
  · refine ge_aload_n 1 DX5_wordOrFault_21 rfl ?_
    refine ge_aload_n 1 DX5_wordOrFault_22 rfl ?_
    refine ge_getR (i := 9) DX5_wordOrFault_23 fl_X5_22 is_295 (by decide) rfl ?_
    refine ge_getR (i := 10) DX5_wordOrFault_26 fl_X5_40 is_9 (by decide) rfl ?_
    refine ge_iload_n 0 DX5_wordOrFault_29 rfl ?_
    refine ge_aaldF DX5_wordOrFault_30 (fun hb7 => ?_)
    refine ge_callVi0 (st := []) cm_X5_44 DX5_wordOrFault_31 is_295 rfl (okX5_numbers (kl K) X m4 (11 + 22 * ix r3) (isF hb7)) rfl rfl (Nat.le_of_ble_eq_true rfl) (by decide) ⟨rfl, rfl⟩ ⟨Nat.zero_le _, Nat.zero_le _⟩ (fun r9 m8 => ?_)
    refine ge_if_eq (tgt := 51) DX5_wordOrFault_34 (by decide) ?_ ?_
    · refine ge_sub [1] rfl ?_
      exact hj51 m8
    · refine ge_aload_n 1 DX5_wordOrFault_37 rfl ?_
      refine ge_getI DX5_wordOrFault_38 fl_X5_9 is_295 (by decide) rfl ?_
      refine ge_aload_n 1 DX5_wordOrFault_41 rfl ?_
      refine ge_getR (i := 281) DX5_wordOrFault_42 fl_X5_18 is_295 (by decide) rfl ?_
      refine ge_getI DX5_wordOrFault_45 fl_X5_48 is_281 (by decide) rfl ?_
      refine ge_icmp_ge (tgt := 59) DX5_wordOrFault_48 (by decide) ?_ ?_
      · refine ge_sub [1] rfl ?_
        exact hj51 m8
      · refine ge_aload_n 1 DX5_wordOrFault_59 rfl ?_
        refine ge_getR (i := 275) DX5_wordOrFault_60 fl_X5_26 is_295 (by decide) rfl ?_
        refine ge_aload_n 1 DX5_wordOrFault_63 rfl ?_
        refine ge_getI DX5_wordOrFault_64 fl_X5_15 is_295 (by decide) rfl ?_
        refine ge_callVi0 (st := []) cm_X5_53 DX5_wordOrFault_67 is_275 rfl (okX6_meaningOf (kl K) X m8 (m8 295 4)) rfl rfl (Nat.le_of_ble_eq_true rfl) (by decide) ⟨rfl, rfl⟩ ⟨Nat.zero_le _, Nat.zero_le _⟩ (fun r11 m10 => ?_)
        refine ge_iload_n 0 DX5_wordOrFault_70 rfl ?_
        refine ge_icmp_eq (tgt := 87) DX5_wordOrFault_71 (by decide) ?_ ?_
        · refine ge_aload_n 1 DX5_wordOrFault_87 rfl ?_
          refine ge_getI DX5_wordOrFault_88 fl_X5_15 is_295 (by decide) rfl ?_
          exact ge_iret rfl DX5_wordOrFault_91
        · refine ge_bipush (v := (-10 : Int32)) DX5_wordOrFault_74 rfl ?_
          refine ge_aload_n 1 DX5_wordOrFault_76 rfl ?_
          refine ge_getR (i := 281) DX5_wordOrFault_77 fl_X5_18 is_295 (by decide) rfl ?_
          refine ge_getI DX5_wordOrFault_80 fl_X5_48 is_281 (by decide) rfl ?_
          refine ge_iconst (v := (1 : Int32)) DX5_wordOrFault_83 rfl ?_
          refine ge_iadd DX5_wordOrFault_84 ?_
          refine ge_isub DX5_wordOrFault_85 ?_
          exact ge_iret rfl DX5_wordOrFault_86
abbrev gJ7_fill_53178 (K : Kt) (X : Xt) := GE (R := Unit) K rmJ7_fill_53178 X cJ7_fill_53178 4 RJ7 none (finM K X ιV 0 0)
set_option maxHeartbeats 4000000 in
set_option maxRecDepth 100000 in
theorem lJ7_fill_53178_L5 (K : Kt) (X : Xt) {k20 : Mem → Option (Unit × Mem)} (q3 : Nat) (y4 : Int32) (y6 : Int32) (hq3 : Is 12 q3) (hk20 : ∀ (m7 : Mem), gJ7_fill_53178 K X 0 0 20 [] [] m7 (k20 m7)) :
    ∀ (n : Nat) (m2 : Mem) (x5 : Int32), gJ7_fill_53178 K X 0 0 5 [(0, .ref (xad X q3)), (1, .int y4), (2, .int x5), (3, .int y6)] [] m2 (fJ7_fill_53178_L5 k20 q3 y4 y6 n m2 x5) := by
  intro n
  induction n with
  | zero => intro m2 x5; exact ge_none
  | succ n ih =>
    intro m2 x5
    show gJ7_fill_53178 K X 0 0 5 [(0, .ref (xad X q3)), (1, .int y4), (2, .int x5), (3, .int y6)] [] m2 (fJ7_fill_53178_L5_b k20 q3 y4 y6 (fJ7_fill_53178_L5 k20 q3 y4 y6 n) m2 x5)
    delta fJ7_fill_53178_L5_b
    refine ge_iload_n 2 DJ7_fill_53178_5 rfl ?_
    refine ge_iload_n 3 DJ7_fill_53178_6 rfl ?_
    refine ge_icmp_ge (tgt := 20) DJ7_fill_53178_7 (by decide) ?_ ?_
    · refine ge_aload_n 0 DJ7_fill_53178_10 rfl ?_
      refine ge_iload_n 2 DJ7_fill_53178_11 rfl ?_
      refine ge_iload_n 1 DJ7_fill_53178_12 rfl ?_
      refine ge_iast DJ7_fill_53178_13 hq3 rfl (fun m9 => ?_)
      refine ge_iinc 2 (v := (x5 + (1 : Int32))) (ls' := [(2, .int (x5 + (1 : Int32))), (0, .ref (xad X q3)), (1, .int y4), (3, .int y6)]) DJ7_fill_53178_14 rfl rfl (by decide) rfl ?_
      refine ge_goto (tgt := 5) DJ7_fill_53178_17 (by decide) ?_
      refine ge_sub [1, 2, 0, 3] rfl ?_
      exact ih m9 (x5 + (1 : Int32))
    · refine ge_sub [] rfl ?_
      exact hk20 m2
set_option maxHeartbeats 4000000 in
set_option maxRecDepth 100000 in
theorem okJ7_fill_53178 (l : Launch) (X : Xt) (m0 : Mem) (a0 : Nat) (ha0 : Is 12 a0) (a1 : Int32) : Ct l yJ7_fill_53178 cJ7_fill_53178 4 none rmJ7_fill_53178 ιV X [.ref (xad X a0), .int a1] m0 (fJ7_fill_53178 m0 a0 a1) := by
  refine ct_of (own := RJ7) (ls := [(0, .ref (xad X a0)), (1, .int a1)]) (by decide) rfl rfl (Nat.le_of_ble_eq_true rfl) (fun K => ?_)
  show gJ7_fill_53178 K X 0 0 0 [(0, .ref (xad X a0)), (1, .int a1)] [] m0 (fJ7_fill_53178 m0 a0 a1)
  delta fJ7_fill_53178
  refine ge_iconst (v := (0 : Int32)) DJ7_fill_53178_0 rfl ?_
  refine ge_istore_n (ls' := [(2, .int (0 : Int32)), (0, .ref (xad X a0)), (1, .int a1)]) DJ7_fill_53178_1 (by decide) rfl ?_
  refine ge_aload_n 1 DJ7_fill_53178_2 rfl ?_
  refine ge_alen DJ7_fill_53178_3 ha0 rfl ?_
  refine ge_topi (fun x1 => ?_)
  refine ge_istore_n (ls' := [(3, .int x1), (2, .int (0 : Int32)), (0, .ref (xad X a0)), (1, .int a1)]) DJ7_fill_53178_4 (by decide) rfl ?_
  refine ge_sub [2, 3, 1, 0] rfl ?_
  refine lJ7_fill_53178_L5 K X a0 a1 x1 ha0 (fun m8 => ?_) 5000 m0 (0 : Int32)
  · exact ge_vret rfl DJ7_fill_53178_20
abbrev gX6_forget (K : Kt) (X : Xt) := GE (R := Unit) K rmX6_forget X cX6_forget 3 RX6 none (finM K X ιV 0 0)
set_option maxHeartbeats 4000000 in
set_option maxRecDepth 100000 in
theorem lX6_forget_L35 (K : Kt) (X : Xt) {k88 : Mem → Option (Unit × Mem)} (y9 : Int32)  (hk88 : ∀ (m11 : Mem), gX6_forget K X 0 0 88 [(0, .ref (xad X 275)), (1, .int y9)] [] m11 (k88 m11)) :
    ∀ (n : Nat) (m8 : Mem) (x10 : Int32), gX6_forget K X 0 0 35 [(0, .ref (xad X 275)), (1, .int y9), (2, .int x10)] [] m8 (fX6_forget_L35 k88 y9 n m8 x10) := by
  intro n
  induction n with
  | zero => intro m8 x10; exact ge_none
  | succ n ih =>
    intro m8 x10
    show gX6_forget K X 0 0 35 [(0, .ref (xad X 275)), (1, .int y9), (2, .int x10)] [] m8 (fX6_forget_L35_b k88 y9 (fX6_forget_L35 k88 y9 n) m8 x10)
    delta fX6_forget_L35_b
    refine ge_iload_n 2 DX6_forget_35 rfl ?_
    refine ge_aload_n 0 DX6_forget_36 rfl ?_
    refine ge_getR (i := 9) DX6_forget_37 fl_X6_35 is_275 (by decide) rfl ?_
    refine ge_getI DX6_forget_40 fl_X6_45 is_9 (by decide) rfl ?_
    refine ge_icmp_ge (tgt := 88) DX6_forget_43 (by decide) ?_ ?_
    · refine ge_aload_n 0 DX6_forget_46 rfl ?_
      refine ge_getR (i := 9) DX6_forget_47 fl_X6_35 is_275 (by decide) rfl ?_
      refine ge_getR (i := 10) DX6_forget_50 fl_X6_50 is_9 (by decide) rfl ?_
      refine ge_iload_n 1 DX6_forget_53 rfl ?_
      refine ge_aaldF DX6_forget_54 (fun hb13 => ?_)
      refine ge_aload_n 0 DX6_forget_55 rfl ?_
      refine ge_getR (i := 9) DX6_forget_56 fl_X6_35 is_275 (by decide) rfl ?_
      refine ge_getR (i := 10) DX6_forget_59 fl_X6_50 is_9 (by decide) rfl ?_
      refine ge_iload_n 2 DX6_forget_62 rfl ?_
      refine ge_aaldF DX6_forget_63 (fun hb14 => ?_)
      refine ge_callVi0 (st := []) cm_X6_54 DX6_forget_64 (isF hb13) rfl (okX3_isOver (kl K) X (11 + 22 * ix y9) (isF hb13) m8 (11 + 22 * ix x10) (isF hb14)) rfl rfl (Nat.le_of_ble_eq_true rfl) (by decide) ⟨rfl, rfl⟩ ⟨Nat.zero_le _, Nat.zero_le _⟩ (fun r16 m15 => ?_)
      refine ge_jn (P := fun k => ∀ (m17 : Mem), gX6_forget K X 0 0 82 [(0, .ref (xad X 275)), (1, .int y9), (2, .int x10)] [] m17 (k m17)) (fun m17 => ?_) (fun j82 hj82 => ?_)
      · refine ge_iinc 2 (v := (x10 + (1 : Int32))) (ls' := [(2, .int (x10 + (1 : Int32))), (0, .ref (xad X 275)), (1, .int y9)]) DX6_forget_82 rfl rfl (by decide) rfl ?_
        refine ge_goto (tgt := 35) DX6_forget_85 (by decide) ?_
        refine ge_sub [1, 2, 0] rfl ?_
        exact ih m17 (x10 + (1 : Int32))
      refine ge_if_eq (tgt := 82) DX6_forget_67 (by decide) ?_ ?_
      · exact hj82 m15
      · refine ge_aload_n 0 DX6_forget_70 rfl ?_
        refine ge_getR (i := 277) DX6_forget_71 fl_X6_15 is_275 (by decide) rfl ?_
        refine ge_iload_n 1 DX6_forget_74 rfl ?_
        refine ge_dup2 DX6_forget_75 rfl rfl ?_
        refine ge_iald DX6_forget_76 is_277 al_277 ?_
        refine ge_iconst (v := (1 : Int32)) DX6_forget_77 rfl ?_
        refine ge_iload_n 2 DX6_forget_78 rfl ?_
        refine ge_ishl DX6_forget_79 ?_
        refine ge_ior DX6_forget_80 ?_
        refine ge_iast DX6_forget_81 is_277 al_277 (fun m18 => ?_)
        exact hj82 m18
    · refine ge_sub [0, 1] rfl ?_
      exact hk88 m8
set_option maxHeartbeats 4000000 in
set_option maxRecDepth 100000 in
theorem lX6_forget_L15 (K : Kt) (X : Xt) {k94 : Mem → Option (Unit × Mem)}   (hk94 : ∀ (m5 : Mem), gX6_forget K X 0 0 94 [] [] m5 (k94 m5)) :
    ∀ (n : Nat) (m3 : Mem) (x4 : Int32), gX6_forget K X 0 0 15 [(0, .ref (xad X 275)), (1, .int x4)] [] m3 (fX6_forget_L15 k94  n m3 x4) := by
  intro n
  induction n with
  | zero => intro m3 x4; exact ge_none
  | succ n ih =>
    intro m3 x4
    show gX6_forget K X 0 0 15 [(0, .ref (xad X 275)), (1, .int x4)] [] m3 (fX6_forget_L15_b k94  (fX6_forget_L15 k94  n) m3 x4)
    delta fX6_forget_L15_b
    refine ge_iload_n 1 DX6_forget_15 rfl ?_
    refine ge_aload_n 0 DX6_forget_16 rfl ?_
    refine ge_getR (i := 9) DX6_forget_17 fl_X6_35 is_275 (by decide) rfl ?_
    refine ge_getI DX6_forget_20 fl_X6_45 is_9 (by decide) rfl ?_
    refine ge_icmp_ge (tgt := 94) DX6_forget_23 (by decide) ?_ ?_
    · refine ge_aload_n 0 DX6_forget_26 rfl ?_
      refine ge_getR (i := 277) DX6_forget_27 fl_X6_15 is_275 (by decide) rfl ?_
      refine ge_iload_n 1 DX6_forget_30 rfl ?_
      refine ge_iconst (v := (0 : Int32)) DX6_forget_31 rfl ?_
      refine ge_iast DX6_forget_32 is_277 al_277 (fun m7 => ?_)
      refine ge_iconst (v := (0 : Int32)) DX6_forget_33 rfl ?_
      refine ge_istore_n (ls' := [(2, .int (0 : Int32)), (0, .ref (xad X 275)), (1, .int x4)]) DX6_forget_34 (by decide) rfl ?_
      refine ge_sub [1, 2, 0] rfl ?_
      refine lX6_forget_L35 K X x4 (fun m12 => ?_) 5000 m7 (0 : Int32)
      · refine ge_iinc 1 (v := (x4 + (1 : Int32))) (ls' := [(1, .int (x4 + (1 : Int32))), (0, .ref (xad X 275))]) DX6_forget_88 rfl rfl (by decide) rfl ?_
        refine ge_goto (tgt := 15) DX6_forget_91 (by decide) ?_
        refine ge_sub [1, 0] rfl ?_
        exact ih m12 (x4 + (1 : Int32))
    · refine ge_sub [] rfl ?_
      exact hk94 m3
set_option maxHeartbeats 4000000 in
set_option maxRecDepth 100000 in
theorem okX6_forget (l : Launch) (X : Xt) (m0 : Mem) : Ct l yX6_forget cX6_forget 3 none rmX6_forget ιV X [.ref (xad X 275)] m0 (fX6_forget m0) := by
  refine ct_of (own := RX6) (ls := [(0, .ref (xad X 275))]) (by decide) rfl rfl (Nat.le_of_ble_eq_true rfl) (fun K => ?_)
  show gX6_forget K X 0 0 0 [(0, .ref (xad X 275))] [] m0 (fX6_forget m0)
  delta fX6_forget
  refine ge_aload_n 0 DX6_forget_0 rfl ?_
  refine ge_getR (i := 276) DX6_forget_1 fl_X6_9 is_275 (by decide) rfl ?_
  refine ge_iconst (v := (0 : Int32)) DX6_forget_4 rfl ?_
  refine ge_callSv0 (st := []) cm_X6_39 DX6_forget_5 (okJ7_fill_53178 (kl K) X m0 276 is_276 (0 : Int32)) rfl rfl (Nat.le_of_ble_eq_true rfl) (by decide) ⟨rfl, rfl⟩ ⟨Nat.zero_le _, Nat.zero_le _⟩ (fun m1 => ?_)
  refine ge_aload_n 0 DX6_forget_8 rfl ?_
  refine ge_iconst (v := (0 : Int32)) DX6_forget_9 rfl ?_
  refine ge_putz rfl DX6_forget_10 fp_X6_18 is_275 (by decide) rfl (fun m2 => ?_)
  refine ge_iconst (v := (0 : Int32)) DX6_forget_13 rfl ?_
  refine ge_istore_n (ls' := [(1, .int (0 : Int32)), (0, .ref (xad X 275))]) DX6_forget_14 (by decide) rfl ?_
  refine ge_sub [1, 0] rfl ?_
  refine lX6_forget_L15 K X  (fun m6 => ?_) 5000 m2 (0 : Int32)
  · exact ge_vret rfl DX6_forget_94
abbrev gX6_fittingOf (K : Kt) (X : Xt) := GE (R := Int32) K rmX6_fittingOf X cX6_fittingOf 2 RX6 (some .int) (finM K X ιI 0 0)
set_option maxHeartbeats 4000000 in
set_option maxRecDepth 100000 in
theorem okX6_fittingOf (l : Launch) (X : Xt) (m0 : Mem) (a1 : Int32) : Ct l yX6_fittingOf cX6_fittingOf 2 (some .int) rmX6_fittingOf ιI X [.ref (xad X 275), .int a1] m0 (fX6_fittingOf m0 a1) := by
  refine ct_of (own := RX6) (ls := [(0, .ref (xad X 275)), (1, .int a1)]) (by decide) rfl rfl (Nat.le_of_ble_eq_true rfl) (fun K => ?_)
  show gX6_fittingOf K X 0 0 0 [(0, .ref (xad X 275)), (1, .int a1)] [] m0 (fX6_fittingOf m0 a1)
  delta fX6_fittingOf
  refine ge_aload_n 0 DX6_fittingOf_0 rfl ?_
  refine ge_iload_n 1 DX6_fittingOf_1 rfl ?_
  refine ge_callVi0 (st := []) cm_X6_60 DX6_fittingOf_2 is_275 rfl (okX6_knownOf (kl K) X m0 a1) rfl rfl (Nat.le_of_ble_eq_true rfl) (by decide) ⟨rfl, rfl⟩ ⟨Nat.zero_le _, Nat.zero_le _⟩ (fun r2 m1 => ?_)
  refine ge_sipush (v := (4095 : Int32)) DX6_fittingOf_5 rfl ?_
  refine ge_iand DX6_fittingOf_8 ?_
  exact ge_iret rfl DX6_fittingOf_9
abbrev gX6_noteClashes (K : Kt) (X : Xt) := GE (R := Unit) K rmX6_noteClashes X cX6_noteClashes 6 RX6 none (finM K X ιV 0 0)
set_option maxHeartbeats 4000000 in
set_option maxRecDepth 100000 in
theorem lX6_noteClashes_L47 (K : Kt) (X : Xt) {k104 : Mem → Option (Unit × Mem)} (y10 : Int32) (y11 : Int32) (y12 : Int32) (y13 : Int32)  (hk104 : ∀ (m15 : Mem), gX6_noteClashes K X 0 0 104 [(0, .ref (xad X 275)), (1, .int y10), (2, .int y11), (3, .int y12), (4, .int y13)] [] m15 (k104 m15)) :
    ∀ (n : Nat) (m9 : Mem) (x14 : Int32), gX6_noteClashes K X 0 0 47 [(0, .ref (xad X 275)), (1, .int y10), (2, .int y11), (3, .int y12), (4, .int y13), (5, .int x14)] [] m9 (fX6_noteClashes_L47 k104 y10 y11 y12 y13 n m9 x14) := by
  intro n
  induction n with
  | zero => intro m9 x14; exact ge_none
  | succ n ih =>
    intro m9 x14
    show gX6_noteClashes K X 0 0 47 [(0, .ref (xad X 275)), (1, .int y10), (2, .int y11), (3, .int y12), (4, .int y13), (5, .int x14)] [] m9 (fX6_noteClashes_L47_b k104 y10 y11 y12 y13 (fX6_noteClashes_L47 k104 y10 y11 y12 y13 n) m9 x14)
    delta fX6_noteClashes_L47_b
    refine ge_iload 5 DX6_noteClashes_47 rfl ?_
    refine ge_aload_n 0 DX6_noteClashes_49 rfl ?_
    refine ge_getR (i := 9) DX6_noteClashes_50 fl_X6_35 is_275 (by decide) rfl ?_
    refine ge_getI DX6_noteClashes_53 fl_X6_45 is_9 (by decide) rfl ?_
    refine ge_icmp_ge (tgt := 104) DX6_noteClashes_56 (by decide) ?_ ?_
    · refine ge_iload 4 DX6_noteClashes_59 rfl ?_
      refine ge_if_eq (tgt := 104) DX6_noteClashes_61 (by decide) ?_ ?_
      · refine ge_sub [0, 1, 2, 3, 4] rfl ?_
        exact hk104 m9
      · refine ge_iload 4 DX6_noteClashes_64 rfl ?_
        refine ge_iload 5 DX6_noteClashes_66 rfl ?_
        refine ge_ishr DX6_noteClashes_68 ?_
        refine ge_iconst (v := (1 : Int32)) DX6_noteClashes_69 rfl ?_
        refine ge_iand DX6_noteClashes_70 ?_
        refine ge_iconst (v := (1 : Int32)) DX6_noteClashes_71 rfl ?_
        refine ge_jn (P := fun k => ∀ (m18 : Mem), gX6_noteClashes K X 0 0 98 [(0, .ref (xad X 275)), (1, .int y10), (2, .int y11), (3, .int y12), (4, .int y13), (5, .int x14)] [] m18 (k m18)) (fun m18 => ?_) (fun j98 hj98 => ?_)
        · refine ge_iinc 5 (v := (x14 + (1 : Int32))) (ls' := [(5, .int (x14 + (1 : Int32))), (0, .ref (xad X 275)), (1, .int y10), (2, .int y11), (3, .int y12), (4, .int y13)]) DX6_noteClashes_98 rfl rfl (by decide) rfl ?_
          refine ge_goto (tgt := 47) DX6_noteClashes_101 (by decide) ?_
          refine ge_sub [1, 2, 3, 4, 5, 0] rfl ?_
          exact ih m18 (x14 + (1 : Int32))
        refine ge_icmp_ne (tgt := 98) DX6_noteClashes_72 (by decide) ?_ ?_
        · refine ge_aload_n 0 DX6_noteClashes_75 rfl ?_
          refine ge_getR (i := 280) DX6_noteClashes_76 fl_X6_28 is_275 (by decide) rfl ?_
          refine ge_bipush (v := (16 : Int32)) DX6_noteClashes_79 rfl ?_
          refine ge_iload_n 3 DX6_noteClashes_81 rfl ?_
          refine ge_imul DX6_noteClashes_82 ?_
          refine ge_iload 5 DX6_noteClashes_83 rfl ?_
          refine ge_iadd DX6_noteClashes_85 ?_
          refine ge_iload_n 1 DX6_noteClashes_86 rfl ?_
          refine ge_iast DX6_noteClashes_87 is_280 al_280 (fun m19 => ?_)
          refine ge_aload_n 0 DX6_noteClashes_88 rfl ?_
          refine ge_dup DX6_noteClashes_89 rfl ?_
          refine ge_getI DX6_noteClashes_90 fl_X6_31 is_275 (by decide) rfl ?_
          refine ge_iconst (v := (1 : Int32)) DX6_noteClashes_93 rfl ?_
          refine ge_iadd DX6_noteClashes_94 ?_
          refine ge_put DX6_noteClashes_95 fp_X6_31 is_275 (by decide) rfl (fun m20 => ?_)
          exact hj98 m20
        · exact hj98 m9
    · refine ge_sub [0, 1, 2, 3, 4] rfl ?_
      exact hk104 m9
set_option maxHeartbeats 4000000 in
set_option maxRecDepth 100000 in
theorem lX6_noteClashes_L2 (K : Kt) (X : Xt) {k121 : Mem → Option (Unit × Mem)} (y2 : Int32) (y3 : Int32)  (hk121 : ∀ (m5 : Mem), gX6_noteClashes K X 0 0 121 [] [] m5 (k121 m5)) :
    ∀ (n : Nat) (m1 : Mem) (x4 : Int32), gX6_noteClashes K X 0 0 2 [(0, .ref (xad X 275)), (1, .int y2), (2, .int y3), (3, .int x4)] [] m1 (fX6_noteClashes_L2 k121 y2 y3 n m1 x4) := by
  intro n
  induction n with
  | zero => intro m1 x4; exact ge_none
  | succ n ih =>
    intro m1 x4
    show gX6_noteClashes K X 0 0 2 [(0, .ref (xad X 275)), (1, .int y2), (2, .int y3), (3, .int x4)] [] m1 (fX6_noteClashes_L2_b k121 y2 y3 (fX6_noteClashes_L2 k121 y2 y3 n) m1 x4)
    delta fX6_noteClashes_L2_b
    refine ge_iload_n 3 DX6_noteClashes_2 rfl ?_
    refine ge_aload_n 0 DX6_noteClashes_3 rfl ?_
    refine ge_getR (i := 9) DX6_noteClashes_4 fl_X6_35 is_275 (by decide) rfl ?_
    refine ge_getI DX6_noteClashes_7 fl_X6_45 is_9 (by decide) rfl ?_
    refine ge_icmp_ge (tgt := 121) DX6_noteClashes_10 (by decide) ?_ ?_
    · refine ge_iload_n 2 DX6_noteClashes_13 rfl ?_
      refine ge_iload_n 3 DX6_noteClashes_14 rfl ?_
      refine ge_ishr DX6_noteClashes_15 ?_
      refine ge_iconst (v := (1 : Int32)) DX6_noteClashes_16 rfl ?_
      refine ge_iand DX6_noteClashes_17 ?_
      refine ge_jn (P := fun k => ∀ (v7 : Int32), gX6_noteClashes K X 0 0 40 [(0, .ref (xad X 275)), (1, .int y2), (2, .int y3), (3, .int x4)] [.int v7] m1 (k v7)) (fun v7 => ?_) (fun j40 hj40 => ?_)
      · refine ge_istore (ls' := [(4, .int v7), (0, .ref (xad X 275)), (1, .int y2), (2, .int y3), (3, .int x4)]) DX6_noteClashes_40 (by decide) rfl ?_
        refine ge_iload_n 4 DX6_noteClashes_42 rfl ?_
        refine ge_iconst (v := (1 : Int32)) DX6_noteClashes_43 rfl ?_
        refine ge_iadd DX6_noteClashes_44 ?_
        refine ge_topi (fun x8 => ?_)
        refine ge_istore (ls' := [(5, .int x8), (4, .int v7), (0, .ref (xad X 275)), (1, .int y2), (2, .int y3), (3, .int x4)]) DX6_noteClashes_45 (by decide) rfl ?_
        refine ge_sub [2, 3, 4, 5, 1, 0] rfl ?_
        refine lX6_noteClashes_L47 K X y2 y3 x4 v7 (fun m16 => ?_) 5000 m1 x8
        · refine ge_aload_n 0 DX6_noteClashes_104 rfl ?_
          refine ge_getR (i := 279) DX6_noteClashes_105 fl_X6_25 is_275 (by decide) rfl ?_
          refine ge_iload_n 3 DX6_noteClashes_108 rfl ?_
          refine ge_dup2 DX6_noteClashes_109 rfl rfl ?_
          refine ge_iald DX6_noteClashes_110 is_279 al_279 ?_
          refine ge_iload 4 DX6_noteClashes_111 rfl ?_
          refine ge_ior DX6_noteClashes_113 ?_
          refine ge_iast DX6_noteClashes_114 is_279 al_279 (fun m17 => ?_)
          refine ge_iinc 3 (v := (x4 + (1 : Int32))) (ls' := [(3, .int (x4 + (1 : Int32))), (0, .ref (xad X 275)), (1, .int y2), (2, .int y3), (4, .int v7)]) DX6_noteClashes_115 rfl rfl (by decide) rfl ?_
          refine ge_goto (tgt := 2) DX6_noteClashes_118 (by decide) ?_
          refine ge_sub [1, 2, 3, 0] rfl ?_
          exact ih m17 (x4 + (1 : Int32))
      refine ge_if_ne (tgt := 25) DX6_noteClashes_18 (by decide) ?_ ?_
      · refine ge_iconst (v := (0 : Int32)) DX6_noteClashes_21 rfl ?_
        refine ge_goto (tgt := 40) DX6_noteClashes_22 (by decide) ?_
        exact hj40 (0 : Int32)
      · refine ge_iload_n 2 DX6_noteClashes_25 rfl ?_
        refine ge_iconst (v := (2 : Int32)) DX6_noteClashes_26 rfl ?_
        refine ge_iload_n 3 DX6_noteClashes_27 rfl ?_
        refine ge_ishl DX6_noteClashes_28 ?_
        refine ge_ineg DX6_noteClashes_29 ?_
        refine ge_iand DX6_noteClashes_30 ?_
        refine ge_aload_n 0 DX6_noteClashes_31 rfl ?_
        refine ge_getR (i := 279) DX6_noteClashes_32 fl_X6_25 is_275 (by decide) rfl ?_
        refine ge_iload_n 3 DX6_noteClashes_35 rfl ?_
        refine ge_iald DX6_noteClashes_36 is_279 al_279 ?_
        refine ge_iconst (v := (-1 : Int32)) DX6_noteClashes_37 rfl ?_
        refine ge_ixor DX6_noteClashes_38 ?_
        refine ge_iand DX6_noteClashes_39 ?_
        exact hj40 ((y3 &&& (-((2 : Int32) <<< (x4 &&& 31)))) &&& ((m1 279 (ix x4)) ^^^ (-1 : Int32)))
    · refine ge_sub [] rfl ?_
      exact hk121 m1
set_option maxHeartbeats 4000000 in
set_option maxRecDepth 100000 in
theorem okX6_noteClashes (l : Launch) (X : Xt) (m0 : Mem) (a1 : Int32) (a2 : Int32) : Ct l yX6_noteClashes cX6_noteClashes 6 none rmX6_noteClashes ιV X [.ref (xad X 275), .int a1, .int a2] m0 (fX6_noteClashes m0 a1 a2) := by
  refine ct_of (own := RX6) (ls := [(0, .ref (xad X 275)), (1, .int a1), (2, .int a2)]) (by decide) rfl rfl (Nat.le_of_ble_eq_true rfl) (fun K => ?_)
  show gX6_noteClashes K X 0 0 0 [(0, .ref (xad X 275)), (1, .int a1), (2, .int a2)] [] m0 (fX6_noteClashes m0 a1 a2)
  delta fX6_noteClashes
  refine ge_iconst (v := (0 : Int32)) DX6_noteClashes_0 rfl ?_
  refine ge_istore_n (ls' := [(3, .int (0 : Int32)), (0, .ref (xad X 275)), (1, .int a1), (2, .int a2)]) DX6_noteClashes_1 (by decide) rfl ?_
  refine ge_sub [1, 2, 3, 0] rfl ?_
  refine lX6_noteClashes_L2 K X a1 a2 (fun m6 => ?_) 5000 m0 (0 : Int32)
  · exact ge_vret rfl DX6_noteClashes_121
abbrev gX6_goThrough (K : Kt) (X : Xt) := GE (R := Unit) K rmX6_goThrough X cX6_goThrough 3 RX6 none (finM K X ιV 0 0)
set_option maxHeartbeats 4000000 in
set_option maxRecDepth 100000 in
theorem lX6_goThrough_L31 (K : Kt) (X : Xt) {k86 : Mem → Option (Unit × Mem)}   (hk86 : ∀ (m6 : Mem), gX6_goThrough K X 0 0 86 [(0, .ref (xad X 275))] [] m6 (k86 m6)) :
    ∀ (n : Nat) (m4 : Mem) (x5 : Int32), gX6_goThrough K X 0 0 31 [(0, .ref (xad X 275)), (1, .int x5)] [] m4 (fX6_goThrough_L31 k86  n m4 x5) := by
  intro n
  induction n with
  | zero => intro m4 x5; exact ge_none
  | succ n ih =>
    intro m4 x5
    show gX6_goThrough K X 0 0 31 [(0, .ref (xad X 275)), (1, .int x5)] [] m4 (fX6_goThrough_L31_b k86  (fX6_goThrough_L31 k86  n) m4 x5)
    delta fX6_goThrough_L31_b
    refine ge_iload_n 1 DX6_goThrough_31 rfl ?_
    refine ge_sipush (v := (4096 : Int32)) DX6_goThrough_32 rfl ?_
    refine ge_icmp_ge (tgt := 86) DX6_goThrough_35 (by decide) ?_ ?_
    · refine ge_aload_n 0 DX6_goThrough_38 rfl ?_
      refine ge_iload_n 1 DX6_goThrough_39 rfl ?_
      refine ge_callVi0 (st := []) cm_X6_71 DX6_goThrough_40 is_275 rfl (okX6_meaningOf (kl K) X m4 x5) rfl rfl (Nat.le_of_ble_eq_true rfl) (by decide) ⟨rfl, rfl⟩ ⟨Nat.zero_le _, Nat.zero_le _⟩ (fun r10 m9 => ?_)
      refine ge_istore_n (ls' := [(2, .int r10), (0, .ref (xad X 275)), (1, .int x5)]) DX6_goThrough_43 (by decide) rfl ?_
      refine ge_iload_n 0 DX6_goThrough_44 rfl ?_
      refine ge_iconst (v := (0 : Int32)) DX6_goThrough_45 rfl ?_
      refine ge_bipush (v := (13 : Int32)) DX6_goThrough_46 rfl ?_
      refine ge_callSi0 (st := []) cm_X6_74 DX6_goThrough_48 (okX10_within (kl K) X m9 r10 (0 : Int32) (13 : Int32)) rfl rfl (Nat.le_of_ble_eq_true rfl) (by decide) ⟨rfl, rfl⟩ ⟨Nat.zero_le _, Nat.zero_le _⟩ (fun r12 m11 => ?_)
      refine ge_jn (P := fun k => ∀ (m13 : Mem), gX6_goThrough K X 0 0 64 [(0, .ref (xad X 275)), (1, .int x5), (2, .int r10)] [] m13 (k m13)) (fun m13 => ?_) (fun j64 hj64 => ?_)
      · refine ge_iload_n 2 DX6_goThrough_64 rfl ?_
        refine ge_bipush (v := (13 : Int32)) DX6_goThrough_65 rfl ?_
        refine ge_jn (P := fun k => ∀ (m14 : Mem), gX6_goThrough K X 0 0 80 [(0, .ref (xad X 275)), (1, .int x5)] [] m14 (k m14)) (fun m14 => ?_) (fun j80 hj80 => ?_)
        · refine ge_iinc 1 (v := (x5 + (1 : Int32))) (ls' := [(1, .int (x5 + (1 : Int32))), (0, .ref (xad X 275))]) DX6_goThrough_80 rfl rfl (by decide) rfl ?_
          refine ge_goto (tgt := 31) DX6_goThrough_83 (by decide) ?_
          refine ge_sub [1, 0] rfl ?_
          exact ih m14 (x5 + (1 : Int32))
        refine ge_icmp_ne (tgt := 80) DX6_goThrough_67 (by decide) ?_ ?_
        · refine ge_aload_n 0 DX6_goThrough_70 rfl ?_
          refine ge_iload_n 1 DX6_goThrough_71 rfl ?_
          refine ge_aload_n 0 DX6_goThrough_72 rfl ?_
          refine ge_iload_n 1 DX6_goThrough_73 rfl ?_
          refine ge_callVi0 (st := [.int x5, .ref (xad X 275)]) cm_X6_78 DX6_goThrough_74 is_275 rfl (okX6_fittingOf (kl K) X m13 x5) rfl rfl (Nat.le_of_ble_eq_true rfl) (by decide) ⟨rfl, rfl⟩ ⟨Nat.zero_le _, Nat.zero_le _⟩ (fun r16 m15 => ?_)
          refine ge_callVv0 (st := []) cm_X6_81 DX6_goThrough_77 is_275 rfl (okX6_noteClashes (kl K) X m15 x5 r16) rfl rfl (Nat.le_of_ble_eq_true rfl) (by decide) ⟨rfl, rfl⟩ ⟨Nat.zero_le _, Nat.zero_le _⟩ (fun m17 => ?_)
          refine ge_sub [0, 1] rfl ?_
          exact hj80 m17
        · refine ge_sub [0, 1] rfl ?_
          exact hj80 m13
      refine ge_if_eq (tgt := 64) DX6_goThrough_51 (by decide) ?_ ?_
      · refine ge_sub [1, 2, 0] rfl ?_
        exact hj64 m11
      · refine ge_aload_n 1 DX6_goThrough_54 rfl ?_
        refine ge_getR (i := 278) DX6_goThrough_55 fl_X6_22 is_275 (by decide) rfl ?_
        refine ge_iload_n 0 DX6_goThrough_58 rfl ?_
        refine ge_dup2 DX6_goThrough_59 rfl rfl ?_
        refine ge_iald DX6_goThrough_60 is_278 al_278 ?_
        refine ge_iconst (v := (1 : Int32)) DX6_goThrough_61 rfl ?_
        refine ge_iadd DX6_goThrough_62 ?_
        refine ge_iast DX6_goThrough_63 is_278 al_278 (fun m18 => ?_)
        refine ge_sub [1, 2, 0] rfl ?_
        exact hj64 m18
    · refine ge_sub [0] rfl ?_
      exact hk86 m4
set_option maxHeartbeats 4000000 in
set_option maxRecDepth 100000 in
theorem okX6_goThrough (l : Launch) (X : Xt) (m0 : Mem) : Ct l yX6_goThrough cX6_goThrough 3 none rmX6_goThrough ιV X [.ref (xad X 275)] m0 (fX6_goThrough m0) := by
  refine ct_of (own := RX6) (ls := [(0, .ref (xad X 275))]) (by decide) rfl rfl (Nat.le_of_ble_eq_true rfl) (fun K => ?_)
  show gX6_goThrough K X 0 0 0 [(0, .ref (xad X 275))] [] m0 (fX6_goThrough m0)
  delta fX6_goThrough
  refine ge_aload_n 0 DX6_goThrough_0 rfl ?_
  refine ge_getI DX6_goThrough_1 fl_X6_18 is_275 (by decide) rfl ?_
  refine ge_if_eq (tgt := 8) DX6_goThrough_4 (by decide) ?_ ?_
  · refine ge_aload_n 0 DX6_goThrough_8 rfl ?_
    refine ge_getR (i := 278) DX6_goThrough_9 fl_X6_22 is_275 (by decide) rfl ?_
    refine ge_iconst (v := (0 : Int32)) DX6_goThrough_12 rfl ?_
    refine ge_callSv0 (st := []) cm_X6_39 DX6_goThrough_13 (okJ7_fill_53178 (kl K) X m0 278 is_278 (0 : Int32)) rfl rfl (Nat.le_of_ble_eq_true rfl) (by decide) ⟨rfl, rfl⟩ ⟨Nat.zero_le _, Nat.zero_le _⟩ (fun m1 => ?_)
    refine ge_aload_n 0 DX6_goThrough_16 rfl ?_
    refine ge_getR (i := 279) DX6_goThrough_17 fl_X6_25 is_275 (by decide) rfl ?_
    refine ge_iconst (v := (0 : Int32)) DX6_goThrough_20 rfl ?_
    refine ge_callSv0 (st := []) cm_X6_39 DX6_goThrough_21 (okJ7_fill_53178 (kl K) X m1 279 is_279 (0 : Int32)) rfl rfl (Nat.le_of_ble_eq_true rfl) (by decide) ⟨rfl, rfl⟩ ⟨Nat.zero_le _, Nat.zero_le _⟩ (fun m2 => ?_)
    refine ge_aload_n 0 DX6_goThrough_24 rfl ?_
    refine ge_iconst (v := (0 : Int32)) DX6_goThrough_25 rfl ?_
    refine ge_put DX6_goThrough_26 fp_X6_31 is_275 (by decide) rfl (fun m3 => ?_)
    refine ge_iconst (v := (0 : Int32)) DX6_goThrough_29 rfl ?_
    refine ge_istore_n (ls' := [(1, .int (0 : Int32)), (0, .ref (xad X 275))]) DX6_goThrough_30 (by decide) rfl ?_
    refine ge_sub [1, 0] rfl ?_
    refine lX6_goThrough_L31 K X  (fun m7 => ?_) 5000 m3 (0 : Int32)
    · refine ge_aload_n 0 DX6_goThrough_86 rfl ?_
      refine ge_iconst (v := (1 : Int32)) DX6_goThrough_87 rfl ?_
      refine ge_putz rfl DX6_goThrough_88 fp_X6_18 is_275 (by decide) rfl (fun m8 => ?_)
      exact ge_vret rfl DX6_goThrough_91
  · exact ge_vret rfl DX6_goThrough_7
abbrev gX6_clashingPair (K : Kt) (X : Xt) := GE (R := Int32) K rmX6_clashingPair X cX6_clashingPair 6 RX6 (some .int) (finM K X ιI 0 0)
set_option maxHeartbeats 4000000 in
set_option maxRecDepth 100000 in
theorem lX6_clashingPair_L28 (K : Kt) (X : Xt) {k63 : Int32 → Option (Int32 × Mem)} {k82 : Int32 → Option (Int32 × Mem)} (m9 : Mem) (y11 : Int32)  (hk63 : ∀ (x13 : Int32), gX6_clashingPair K X 0 0 63 [(3, .int y11), (4, .int x13)] [] m9 (k63 x13)) (hk82 : ∀ (x15 : Int32), gX6_clashingPair K X 0 0 82 [(0, .ref (xad X 275)), (2, .int x15), (3, .int y11)] [] m9 (k82 x15)) :
    ∀ (n : Nat) (x10 : Int32) (x12 : Int32), gX6_clashingPair K X 0 0 28 [(0, .ref (xad X 275)), (2, .int x10), (3, .int y11), (4, .int x12)] [] m9 (fX6_clashingPair_L28 k63 k82 m9 y11 n x10 x12) := by
  intro n
  induction n with
  | zero => intro x10 x12; exact ge_none
  | succ n ih =>
    intro x10 x12
    show gX6_clashingPair K X 0 0 28 [(0, .ref (xad X 275)), (2, .int x10), (3, .int y11), (4, .int x12)] [] m9 (fX6_clashingPair_L28_b k63 k82 m9 y11 (fX6_clashingPair_L28 k63 k82 m9 y11 n) x10 x12)
    delta fX6_clashingPair_L28_b
    refine ge_iload 3 DX6_clashingPair_28 rfl ?_
    refine ge_aload_n 0 DX6_clashingPair_30 rfl ?_
    refine ge_getR (i := 9) DX6_clashingPair_31 fl_X6_35 is_275 (by decide) rfl ?_
    refine ge_getI DX6_clashingPair_34 fl_X6_45 is_9 (by decide) rfl ?_
    refine ge_icmp_ge (tgt := 82) DX6_clashingPair_37 (by decide) ?_ ?_
    · refine ge_aload_n 0 DX6_clashingPair_40 rfl ?_
      refine ge_getR (i := 279) DX6_clashingPair_41 fl_X6_25 is_275 (by decide) rfl ?_
      refine ge_iload_n 2 DX6_clashingPair_44 rfl ?_
      refine ge_iald DX6_clashingPair_45 is_279 al_279 ?_
      refine ge_iload 3 DX6_clashingPair_46 rfl ?_
      refine ge_ishr DX6_clashingPair_48 ?_
      refine ge_iconst (v := (1 : Int32)) DX6_clashingPair_49 rfl ?_
      refine ge_iand DX6_clashingPair_50 ?_
      refine ge_topi (fun x17 => ?_)
      refine ge_istore (ls' := [(5, .int x17), (0, .ref (xad X 275)), (2, .int x10), (3, .int y11), (4, .int x12)]) DX6_clashingPair_51 (by decide) rfl ?_
      refine ge_iload 0 DX6_clashingPair_53 rfl ?_
      refine ge_iconst (v := (1 : Int32)) DX6_clashingPair_55 rfl ?_
      refine ge_jn (P := fun k => gX6_clashingPair K X 0 0 71 [(0, .ref (xad X 275)), (2, .int x10), (3, .int y11), (4, .int x12), (5, .int x17)] [] m9 k) ?_ (fun j71 hj71 => ?_)
      · refine ge_iload_n 1 DX6_clashingPair_71 rfl ?_
        refine ge_iload 4 DX6_clashingPair_72 rfl ?_
        refine ge_isub DX6_clashingPair_74 ?_
        refine ge_topi (fun x18 => ?_)
        refine ge_istore_n (ls' := [(2, .int x18), (0, .ref (xad X 275)), (3, .int y11), (4, .int x12), (5, .int x17)]) DX6_clashingPair_75 (by decide) rfl ?_
        refine ge_iinc 3 (v := (x12 + (1 : Int32))) (ls' := [(4, .int (x12 + (1 : Int32))), (2, .int x18), (0, .ref (xad X 275)), (3, .int y11), (5, .int x17)]) DX6_clashingPair_76 rfl rfl (by decide) rfl ?_
        refine ge_goto (tgt := 28) DX6_clashingPair_79 (by decide) ?_
        refine ge_sub [2, 1, 3, 0] rfl ?_
        exact ih x18 (x12 + (1 : Int32))
      refine ge_icmp_ne (tgt := 71) DX6_clashingPair_56 (by decide) ?_ ?_
      · refine ge_iload_n 2 DX6_clashingPair_59 rfl ?_
        refine ge_if_ne (tgt := 71) DX6_clashingPair_60 (by decide) ?_ ?_
        · refine ge_sub [3, 4] rfl ?_
          exact hk63 x12
        · refine ge_sub [1, 2, 3, 4, 0] rfl ?_
          exact hj71
      · refine ge_sub [1, 2, 3, 4, 0] rfl ?_
        exact hj71
    · refine ge_sub [0, 1, 2] rfl ?_
      exact hk82 x10
set_option maxHeartbeats 4000000 in
set_option maxRecDepth 100000 in
theorem lX6_clashingPair_L4 (K : Kt) (X : Xt) {k63 : Int32 → Int32 → Option (Int32 × Mem)} {k88 : Option (Int32 × Mem)} (m1 : Mem)  (hk63 : ∀ (x4 : Int32) (x5 : Int32), gX6_clashingPair K X 0 0 63 [(3, .int x4), (4, .int x5)] [] m1 (k63 x4 x5)) (hk88 : gX6_clashingPair K X 0 0 88 [] [] m1 (k88)) :
    ∀ (n : Nat) (x2 : Int32) (x3 : Int32), gX6_clashingPair K X 0 0 4 [(0, .ref (xad X 275)), (2, .int x2), (3, .int x3)] [] m1 (fX6_clashingPair_L4 k63 k88 m1 n x2 x3) := by
  intro n
  induction n with
  | zero => intro x2 x3; exact ge_none
  | succ n ih =>
    intro x2 x3
    show gX6_clashingPair K X 0 0 4 [(0, .ref (xad X 275)), (2, .int x2), (3, .int x3)] [] m1 (fX6_clashingPair_L4_b k63 k88 m1 (fX6_clashingPair_L4 k63 k88 m1 n) x2 x3)
    delta fX6_clashingPair_L4_b
    refine ge_iload_n 2 DX6_clashingPair_4 rfl ?_
    refine ge_aload_n 0 DX6_clashingPair_5 rfl ?_
    refine ge_getR (i := 9) DX6_clashingPair_6 fl_X6_35 is_275 (by decide) rfl ?_
    refine ge_getI DX6_clashingPair_9 fl_X6_45 is_9 (by decide) rfl ?_
    refine ge_icmp_ge (tgt := 88) DX6_clashingPair_12 (by decide) ?_ ?_
    · refine ge_iload_n 1 DX6_clashingPair_15 rfl ?_
      refine ge_aload_n 0 DX6_clashingPair_16 rfl ?_
      refine ge_getI DX6_clashingPair_17 fl_X6_31 is_275 (by decide) rfl ?_
      refine ge_icmp_ge (tgt := 88) DX6_clashingPair_20 (by decide) ?_ ?_
      · refine ge_iload_n 2 DX6_clashingPair_23 rfl ?_
        refine ge_iconst (v := (1 : Int32)) DX6_clashingPair_24 rfl ?_
        refine ge_iadd DX6_clashingPair_25 ?_
        refine ge_topi (fun x8 => ?_)
        refine ge_istore (ls' := [(4, .int x8), (0, .ref (xad X 275)), (2, .int x2), (3, .int x3)]) DX6_clashingPair_26 (by decide) rfl ?_
        refine ge_sub [1, 2, 3, 0] rfl ?_
        refine lX6_clashingPair_L28 K X m1 x3 (fun x14 => ?_) (fun x16 => ?_) 5000 x2 x8
        · exact hk63 x3 x14
        · refine ge_iinc 2 (v := (x3 + (1 : Int32))) (ls' := [(3, .int (x3 + (1 : Int32))), (0, .ref (xad X 275)), (2, .int x16)]) DX6_clashingPair_82 rfl rfl (by decide) rfl ?_
          refine ge_goto (tgt := 4) DX6_clashingPair_85 (by decide) ?_
          refine ge_sub [1, 2, 0] rfl ?_
          exact ih x16 (x3 + (1 : Int32))
      · refine ge_sub [] rfl ?_
        exact hk88
    · refine ge_sub [] rfl ?_
      exact hk88
set_option maxHeartbeats 4000000 in
set_option maxRecDepth 100000 in
theorem okX6_clashingPair (l : Launch) (X : Xt) (m0 : Mem) (a1 : Int32) : Ct l yX6_clashingPair cX6_clashingPair 6 (some .int) rmX6_clashingPair ιI X [.ref (xad X 275), .int a1] m0 (fX6_clashingPair m0 a1) := by
  refine ct_of (own := RX6) (ls := [(0, .ref (xad X 275)), (1, .int a1)]) (by decide) rfl rfl (Nat.le_of_ble_eq_true rfl) (fun K => ?_)
  show gX6_clashingPair K X 0 0 0 [(0, .ref (xad X 275)), (1, .int a1)] [] m0 (fX6_clashingPair m0 a1)
  delta fX6_clashingPair
  refine ge_iload_n 1 DX6_clashingPair_0 rfl ?_
  refine ge_istore_n (ls' := [(2, .int a1), (0, .ref (xad X 275)), (1, .int a1)]) DX6_clashingPair_1 (by decide) rfl ?_
  refine ge_iconst (v := (0 : Int32)) DX6_clashingPair_2 rfl ?_
  refine ge_istore_n (ls' := [(3, .int (0 : Int32)), (2, .int a1), (0, .ref (xad X 275)), (1, .int a1)]) DX6_clashingPair_3 (by decide) rfl ?_
  refine ge_sub [2, 1, 0] rfl ?_
  refine lX6_clashingPair_L4 K X m0 (fun x6 x7 => ?_) ?_ 5000 a1 (0 : Int32)
  · refine ge_bipush (v := (16 : Int32)) DX6_clashingPair_63 rfl ?_
    refine ge_iload_n 0 DX6_clashingPair_65 rfl ?_
    refine ge_imul DX6_clashingPair_66 ?_
    refine ge_iload 1 DX6_clashingPair_67 rfl ?_
    refine ge_iadd DX6_clashingPair_69 ?_
    exact ge_iret rfl DX6_clashingPair_70
  · refine ge_iconst (v := (-1 : Int32)) DX6_clashingPair_88 rfl ?_
    exact ge_iret rfl DX6_clashingPair_89
abbrev gX6_deadForms (K : Kt) (X : Xt) := GE (R := Int32) K rmX6_deadForms X cX6_deadForms 3 RX6 (some .int) (finM K X ιI 0 0)
set_option maxHeartbeats 4000000 in
set_option maxRecDepth 100000 in
theorem lX6_deadForms_L4 (K : Kt) (X : Xt) {k36 : Int32 → Option (Int32 × Mem)} (m1 : Mem)  (hk36 : ∀ (x4 : Int32), gX6_deadForms K X 0 0 36 [(1, .int x4)] [] m1 (k36 x4)) :
    ∀ (n : Nat) (x2 : Int32) (x3 : Int32), gX6_deadForms K X 0 0 4 [(0, .ref (xad X 275)), (1, .int x2), (2, .int x3)] [] m1 (fX6_deadForms_L4 k36 m1 n x2 x3) := by
  intro n
  induction n with
  | zero => intro x2 x3; exact ge_none
  | succ n ih =>
    intro x2 x3
    show gX6_deadForms K X 0 0 4 [(0, .ref (xad X 275)), (1, .int x2), (2, .int x3)] [] m1 (fX6_deadForms_L4_b k36 m1 (fX6_deadForms_L4 k36 m1 n) x2 x3)
    delta fX6_deadForms_L4_b
    refine ge_iload_n 2 DX6_deadForms_4 rfl ?_
    refine ge_aload_n 0 DX6_deadForms_5 rfl ?_
    refine ge_getR (i := 9) DX6_deadForms_6 fl_X6_35 is_275 (by decide) rfl ?_
    refine ge_getI DX6_deadForms_9 fl_X6_45 is_9 (by decide) rfl ?_
    refine ge_icmp_ge (tgt := 36) DX6_deadForms_12 (by decide) ?_ ?_
    · refine ge_aload_n 0 DX6_deadForms_15 rfl ?_
      refine ge_getR (i := 278) DX6_deadForms_16 fl_X6_22 is_275 (by decide) rfl ?_
      refine ge_iload_n 2 DX6_deadForms_19 rfl ?_
      refine ge_iald DX6_deadForms_20 is_278 al_278 ?_
      refine ge_jn (P := fun k => ∀ (x6 : Int32), gX6_deadForms K X 0 0 30 [(0, .ref (xad X 275)), (1, .int x6), (2, .int x3)] [] m1 (k x6)) (fun x6 => ?_) (fun j30 hj30 => ?_)
      · refine ge_iinc 2 (v := (x3 + (1 : Int32))) (ls' := [(2, .int (x3 + (1 : Int32))), (0, .ref (xad X 275)), (1, .int x6)]) DX6_deadForms_30 rfl rfl (by decide) rfl ?_
        refine ge_goto (tgt := 4) DX6_deadForms_33 (by decide) ?_
        refine ge_sub [1, 2, 0] rfl ?_
        exact ih x6 (x3 + (1 : Int32))
      refine ge_if_ne (tgt := 30) DX6_deadForms_21 (by decide) ?_ ?_
      · refine ge_iload_n 1 DX6_deadForms_24 rfl ?_
        refine ge_iconst (v := (1 : Int32)) DX6_deadForms_25 rfl ?_
        refine ge_iload_n 2 DX6_deadForms_26 rfl ?_
        refine ge_ishl DX6_deadForms_27 ?_
        refine ge_ior DX6_deadForms_28 ?_
        refine ge_topi (fun x7 => ?_)
        refine ge_istore_n (ls' := [(1, .int x7), (0, .ref (xad X 275)), (2, .int x3)]) DX6_deadForms_29 (by decide) rfl ?_
        refine ge_sub [1, 0, 2] rfl ?_
        exact hj30 x7
      · exact hj30 x2
    · refine ge_sub [1] rfl ?_
      exact hk36 x2
set_option maxHeartbeats 4000000 in
set_option maxRecDepth 100000 in
theorem okX6_deadForms (l : Launch) (X : Xt) (m0 : Mem) : Ct l yX6_deadForms cX6_deadForms 3 (some .int) rmX6_deadForms ιI X [.ref (xad X 275)] m0 (fX6_deadForms m0) := by
  refine ct_of (own := RX6) (ls := [(0, .ref (xad X 275))]) (by decide) rfl rfl (Nat.le_of_ble_eq_true rfl) (fun K => ?_)
  show gX6_deadForms K X 0 0 0 [(0, .ref (xad X 275))] [] m0 (fX6_deadForms m0)
  delta fX6_deadForms
  refine ge_iconst (v := (0 : Int32)) DX6_deadForms_0 rfl ?_
  refine ge_istore_n (ls' := [(1, .int (0 : Int32)), (0, .ref (xad X 275))]) DX6_deadForms_1 (by decide) rfl ?_
  refine ge_iconst (v := (0 : Int32)) DX6_deadForms_2 rfl ?_
  refine ge_istore_n (ls' := [(2, .int (0 : Int32)), (1, .int (0 : Int32)), (0, .ref (xad X 275))]) DX6_deadForms_3 (by decide) rfl ?_
  refine ge_sub [2, 1, 0] rfl ?_
  refine lX6_deadForms_L4 K X m0 (fun x5 => ?_) 5000 (0 : Int32) (0 : Int32)
  · refine ge_iload_n 0 DX6_deadForms_36 rfl ?_
    exact ge_iret rfl DX6_deadForms_37
abbrev gX10_kindOf (K : Kt) (X : Xt) := GE (R := Int32) K rmX10_kindOf X cX10_kindOf 2 RX10 (some .int) (finM K X ιI 0 0)
set_option maxHeartbeats 4000000 in
set_option maxRecDepth 100000 in
theorem lX10_kindOf_L2 (K : Kt) (X : Xt) {k17 : Int32 → Option (Int32 × Mem)} {k25 : Option (Int32 × Mem)} (m1 : Mem) (y2 : Int32)  (hk17 : ∀ (x4 : Int32), gX10_kindOf K X 0 0 17 [(1, .int x4)] [] m1 (k17 x4)) (hk25 : gX10_kindOf K X 0 0 25 [] [] m1 (k25)) :
    ∀ (n : Nat) (x3 : Int32), gX10_kindOf K X 0 0 2 [(0, .int y2), (1, .int x3)] [] m1 (fX10_kindOf_L2 k17 k25 m1 y2 n x3) := by
  intro n
  induction n with
  | zero => intro x3; exact ge_none
  | succ n ih =>
    intro x3
    show gX10_kindOf K X 0 0 2 [(0, .int y2), (1, .int x3)] [] m1 (fX10_kindOf_L2_b k17 k25 m1 y2 (fX10_kindOf_L2 k17 k25 m1 y2 n) x3)
    delta fX10_kindOf_L2_b
    refine ge_iload_n 1 DX10_kindOf_2 rfl ?_
    refine ge_bipush (v := (7 : Int32)) DX10_kindOf_3 rfl ?_
    refine ge_icmp_ge (tgt := 25) DX10_kindOf_5 (by decide) ?_ ?_
    · refine ge_gets DX10_kindOf_8 sl_X10_347 ?_
      refine ge_iload_n 1 DX10_kindOf_11 rfl ?_
      refine ge_scald (j := 1) DX10_kindOf_12 (by decide) rfl rfl ?_
      refine ge_iload_n 0 DX10_kindOf_13 rfl ?_
      refine ge_icmp_ne (tgt := 19) DX10_kindOf_14 (by decide) ?_ ?_
      · refine ge_sub [1] rfl ?_
        exact hk17 x3
      · refine ge_iinc 1 (v := (x3 + (1 : Int32))) (ls' := [(1, .int (x3 + (1 : Int32))), (0, .int y2)]) DX10_kindOf_19 rfl rfl (by decide) rfl ?_
        refine ge_goto (tgt := 2) DX10_kindOf_22 (by decide) ?_
        refine ge_sub [1, 0] rfl ?_
        exact ih (x3 + (1 : Int32))
    · refine ge_sub [] rfl ?_
      exact hk25
set_option maxHeartbeats 4000000 in
set_option maxRecDepth 100000 in
theorem okX10_kindOf (l : Launch) (X : Xt) (m0 : Mem) (a0 : Int32) : Ct l yX10_kindOf cX10_kindOf 2 (some .int) rmX10_kindOf ιI X [.int a0] m0 (fX10_kindOf m0 a0) := by
  refine ct_of (own := RX10) (ls := [(0, .int a0)]) (by decide) rfl rfl (Nat.le_of_ble_eq_true rfl) (fun K => ?_)
  show gX10_kindOf K X 0 0 0 [(0, .int a0)] [] m0 (fX10_kindOf m0 a0)
  delta fX10_kindOf
  refine ge_iconst (v := (0 : Int32)) DX10_kindOf_0 rfl ?_
  refine ge_istore_n (ls' := [(1, .int (0 : Int32)), (0, .int a0)]) DX10_kindOf_1 (by decide) rfl ?_
  refine ge_sub [1, 0] rfl ?_
  refine lX10_kindOf_L2 K X m0 a0 (fun x5 => ?_) ?_ 5000 (0 : Int32)
  · refine ge_iload_n 0 DX10_kindOf_17 rfl ?_
    exact ge_iret rfl DX10_kindOf_18
  · refine ge_iconst (v := (-1 : Int32)) DX10_kindOf_25 rfl ?_
    exact ge_iret rfl DX10_kindOf_26
abbrev gX7_kind (K : Kt) (X : Xt) := GE (R := Int32) K rmX7_kind X cX7_kind 2 RX7 (some .boolean) (finM K X ιI 0 0)
set_option maxHeartbeats 4000000 in
set_option maxRecDepth 100000 in
theorem okX7_kind (l : Launch) (X : Xt) (m0 : Mem) (a1 : Nat) (ha1 : Is 3 a1) : Ct l yX7_kind cX7_kind 2 (some .boolean) rmX7_kind ιI X [.ref (xad X 294), .ref (xad X a1)] m0 (fX7_kind m0 a1) := by
  refine ct_of (own := RX7) (ls := [(0, .ref (xad X 294)), (1, .ref (xad X a1))]) (by decide) rfl rfl (Nat.le_of_ble_eq_true rfl) (fun K => ?_)
  show gX7_kind K X 0 0 0 [(0, .ref (xad X 294)), (1, .ref (xad X a1))] [] m0 (fX7_kind m0 a1)
  delta fX7_kind
  refine ge_aload_n 1 DX7_kind_0 rfl ?_
  refine ge_aload_n 0 DX7_kind_1 rfl ?_
  refine ge_getR (i := 281) DX7_kind_2 fl_X7_18 is_294 (by decide) rfl ?_
  refine ge_aload_n 0 DX7_kind_5 rfl ?_
  refine ge_getI DX7_kind_6 fl_X7_9 is_294 (by decide) rfl ?_
  refine ge_callVi0 (st := [.ref (xad X a1)]) cm_X7_66 DX7_kind_9 is_281 rfl (okX0_at (kl K) X 281 is_281 m0 (m0 294 2)) rfl rfl (Nat.le_of_ble_eq_true rfl) (by decide) ⟨rfl, rfl⟩ ⟨Nat.zero_le _, Nat.zero_le _⟩ (fun r2 m1 => ?_)
  refine ge_callSi0 (st := [.ref (xad X a1)]) cm_X7_70 DX7_kind_12 (okX10_kindOf (kl K) X m1 r2) rfl rfl (Nat.le_of_ble_eq_true rfl) (by decide) ⟨rfl, rfl⟩ ⟨Nat.zero_le _, Nat.zero_le _⟩ (fun r4 m3 => ?_)
  refine ge_put DX7_kind_15 fp_X7_73 ha1 (by decide) rfl (fun m5 => ?_)
  refine ge_aload_n 1 DX7_kind_18 rfl ?_
  refine ge_getI DX7_kind_19 fl_X7_73 ha1 (by decide) rfl ?_
  refine ge_iconst (v := (-1 : Int32)) DX7_kind_22 rfl ?_
  refine ge_icmp_ne (tgt := 28) DX7_kind_23 (by decide) ?_ ?_
  · refine ge_iconst (v := (0 : Int32)) DX7_kind_26 rfl ?_
    exact ge_zretc rfl rfl DX7_kind_27
  · refine ge_aload_n 0 DX7_kind_28 rfl ?_
    refine ge_dup DX7_kind_29 rfl ?_
    refine ge_getI DX7_kind_30 fl_X7_9 is_294 (by decide) rfl ?_
    refine ge_iconst (v := (1 : Int32)) DX7_kind_33 rfl ?_
    refine ge_iadd DX7_kind_34 ?_
    refine ge_put DX7_kind_35 fp_X7_9 is_294 (by decide) rfl (fun m6 => ?_)
    refine ge_iconst (v := (1 : Int32)) DX7_kind_38 rfl ?_
    exact ge_zretc rfl rfl DX7_kind_39
abbrev gX7_name (K : Kt) (X : Xt) := GE (R := Int32) K rmX7_name X cX7_name 4 RX7 (some .boolean) (finM K X ιI 0 0)
set_option maxHeartbeats 4000000 in
set_option maxRecDepth 100000 in
theorem lX7_name_L4 (K : Kt) (X : Xt) {k62 : Mem → Int32 → Option (Int32 × Mem)} (q2 : Nat) (hq2 : Is 3 q2) (hk62 : ∀ (m5 : Mem) (x6 : Int32), gX7_name K X 0 0 62 [(0, .ref (xad X 294)), (1, .ref (xad X q2)), (2, .int x6)] [] m5 (k62 m5 x6)) :
    ∀ (n : Nat) (m1 : Mem) (x3 : Int32) (x4 : Int32), gX7_name K X 0 0 4 [(0, .ref (xad X 294)), (1, .ref (xad X q2)), (2, .int x3), (3, .int x4)] [] m1 (fX7_name_L4 k62 q2 n m1 x3 x4) := by
  intro n
  induction n with
  | zero => intro m1 x3 x4; exact ge_none
  | succ n ih =>
    intro m1 x3 x4
    show gX7_name K X 0 0 4 [(0, .ref (xad X 294)), (1, .ref (xad X q2)), (2, .int x3), (3, .int x4)] [] m1 (fX7_name_L4_b k62 q2 (fX7_name_L4 k62 q2 n) m1 x3 x4)
    delta fX7_name_L4_b
    refine ge_iload_n 3 DX7_name_4 rfl ?_
    refine ge_iconst (v := (3 : Int32)) DX7_name_5 rfl ?_
    refine ge_icmp_ge (tgt := 62) DX7_name_6 (by decide) ?_ ?_
    · refine ge_aload_n 0 DX7_name_9 rfl ?_
      refine ge_getR (i := 281) DX7_name_10 fl_X7_18 is_294 (by decide) rfl ?_
      refine ge_aload_n 0 DX7_name_13 rfl ?_
      refine ge_getI DX7_name_14 fl_X7_9 is_294 (by decide) rfl ?_
      refine ge_callVi0 (st := []) cm_X7_66 DX7_name_17 is_281 rfl (okX0_at (kl K) X 281 is_281 m1 (m1 294 2)) rfl rfl (Nat.le_of_ble_eq_true rfl) (by decide) ⟨rfl, rfl⟩ ⟨Nat.zero_le _, Nat.zero_le _⟩ (fun r13 m12 => ?_)
      refine ge_bipush (v := (97 : Int32)) DX7_name_20 rfl ?_
      refine ge_bipush (v := (122 : Int32)) DX7_name_22 rfl ?_
      refine ge_callSi0 (st := []) cm_X7_75 DX7_name_24 (okX10_within (kl K) X m12 r13 (97 : Int32) (122 : Int32)) rfl rfl (Nat.le_of_ble_eq_true rfl) (by decide) ⟨rfl, rfl⟩ ⟨Nat.zero_le _, Nat.zero_le _⟩ (fun r15 m14 => ?_)
      refine ge_if_eq (tgt := 62) DX7_name_27 (by decide) ?_ ?_
      · refine ge_sub [0, 1, 2] rfl ?_
        exact hk62 m14 x3
      · refine ge_iload_n 2 DX7_name_30 rfl ?_
        refine ge_aload_n 0 DX7_name_31 rfl ?_
        refine ge_getR (i := 281) DX7_name_32 fl_X7_18 is_294 (by decide) rfl ?_
        refine ge_aload_n 0 DX7_name_35 rfl ?_
        refine ge_getI DX7_name_36 fl_X7_9 is_294 (by decide) rfl ?_
        refine ge_callVi0 (st := [.int x3]) cm_X7_66 DX7_name_39 is_281 rfl (okX0_at (kl K) X 281 is_281 m14 (m14 294 2)) rfl rfl (Nat.le_of_ble_eq_true rfl) (by decide) ⟨rfl, rfl⟩ ⟨Nat.zero_le _, Nat.zero_le _⟩ (fun r17 m16 => ?_)
        refine ge_callSi0 (st := []) cm_X7_79 DX7_name_42 (okX10_withSign (kl K) X m16 x3 r17) rfl rfl (Nat.le_of_ble_eq_true rfl) (by decide) ⟨rfl, rfl⟩ ⟨Nat.zero_le _, Nat.zero_le _⟩ (fun r19 m18 => ?_)
        refine ge_istore_n (ls' := [(2, .int r19), (0, .ref (xad X 294)), (1, .ref (xad X q2)), (3, .int x4)]) DX7_name_45 (by decide) rfl ?_
        refine ge_aload_n 1 DX7_name_46 rfl ?_
        refine ge_dup DX7_name_47 rfl ?_
        refine ge_getI DX7_name_48 fl_X7_9 is_294 (by decide) rfl ?_
        refine ge_iconst (v := (1 : Int32)) DX7_name_51 rfl ?_
        refine ge_iadd DX7_name_52 ?_
        refine ge_put DX7_name_53 fp_X7_9 is_294 (by decide) rfl (fun m20 => ?_)
        refine ge_iinc 3 (v := (x4 + (1 : Int32))) (ls' := [(3, .int (x4 + (1 : Int32))), (2, .int r19), (0, .ref (xad X 294)), (1, .ref (xad X q2))]) DX7_name_56 rfl rfl (by decide) rfl ?_
        refine ge_goto (tgt := 4) DX7_name_59 (by decide) ?_
        refine ge_sub [2, 3, 1, 0] rfl ?_
        exact ih m20 r19 (x4 + (1 : Int32))
    · refine ge_sub [0, 1, 2] rfl ?_
      exact hk62 m1 x3
set_option maxHeartbeats 4000000 in
set_option maxRecDepth 100000 in
theorem okX7_name (l : Launch) (X : Xt) (m0 : Mem) (a1 : Nat) (ha1 : Is 3 a1) : Ct l yX7_name cX7_name 4 (some .boolean) rmX7_name ιI X [.ref (xad X 294), .ref (xad X a1)] m0 (fX7_name m0 a1) := by
  refine ct_of (own := RX7) (ls := [(0, .ref (xad X 294)), (1, .ref (xad X a1))]) (by decide) rfl rfl (Nat.le_of_ble_eq_true rfl) (fun K => ?_)
  show gX7_name K X 0 0 0 [(0, .ref (xad X 294)), (1, .ref (xad X a1))] [] m0 (fX7_name m0 a1)
  delta fX7_name
  refine ge_iconst (v := (0 : Int32)) DX7_name_0 rfl ?_
  refine ge_istore_n (ls' := [(2, .int (0 : Int32)), (0, .ref (xad X 294)), (1, .ref (xad X a1))]) DX7_name_1 (by decide) rfl ?_
  refine ge_iconst (v := (0 : Int32)) DX7_name_2 rfl ?_
  refine ge_istore_n (ls' := [(3, .int (0 : Int32)), (2, .int (0 : Int32)), (0, .ref (xad X 294)), (1, .ref (xad X a1))]) DX7_name_3 (by decide) rfl ?_
  refine ge_sub [2, 3, 1, 0] rfl ?_
  refine lX7_name_L4 K X a1 ha1 (fun m7 x8 => ?_) 5000 m0 (0 : Int32) (0 : Int32)
  · refine ge_iload_n 2 DX7_name_62 rfl ?_
    refine ge_if_eq (tgt := 82) DX7_name_63 (by decide) ?_ ?_
    · refine ge_iconst (v := (0 : Int32)) DX7_name_82 rfl ?_
      exact ge_zretc rfl rfl DX7_name_83
    · refine ge_aload_n 0 DX7_name_66 rfl ?_
      refine ge_getR (i := 9) DX7_name_67 fl_X7_22 is_294 (by decide) rfl ?_
      refine ge_iload_n 2 DX7_name_70 rfl ?_
      refine ge_aload_n 0 DX7_name_71 rfl ?_
      refine ge_getI DX7_name_72 fl_X7_15 is_294 (by decide) rfl ?_
      refine ge_callVi0 (st := []) cm_X7_83 DX7_name_75 is_9 rfl (okX4_find (kl K) X m7 x8 (m7 294 3)) rfl rfl (Nat.le_of_ble_eq_true rfl) (by decide) ⟨rfl, rfl⟩ ⟨Nat.zero_le _, Nat.zero_le _⟩ (fun r10 m9 => ?_)
      refine ge_iconst (v := (-1 : Int32)) DX7_name_78 rfl ?_
      refine ge_icmp_eq (tgt := 84) DX7_name_79 (by decide) ?_ ?_
      · refine ge_aload_n 1 DX7_name_84 rfl ?_
        refine ge_iload_n 2 DX7_name_85 rfl ?_
        refine ge_put DX7_name_86 fp_X7_86 ha1 (by decide) rfl (fun m11 => ?_)
        refine ge_iconst (v := (1 : Int32)) DX7_name_89 rfl ?_
        exact ge_zretc rfl rfl DX7_name_90
      · refine ge_iconst (v := (0 : Int32)) DX7_name_82 rfl ?_
        exact ge_zretc rfl rfl DX7_name_83
abbrev gX7_sign (K : Kt) (X : Xt) := GE (R := Int32) K rmX7_sign X cX7_sign 2 RX7 (some .boolean) (finM K X ιI 0 0)
set_option maxHeartbeats 4000000 in
set_option maxRecDepth 100000 in
theorem okX7_sign (l : Launch) (X : Xt) (m0 : Mem) (a1 : Int32) : Ct l yX7_sign cX7_sign 2 (some .boolean) rmX7_sign ιI X [.ref (xad X 294), .int a1] m0 (fX7_sign m0 a1) := by
  refine ct_of (own := RX7) (ls := [(0, .ref (xad X 294)), (1, .int a1)]) (by decide) rfl rfl (Nat.le_of_ble_eq_true rfl) (fun K => ?_)
  show gX7_sign K X 0 0 0 [(0, .ref (xad X 294)), (1, .int a1)] [] m0 (fX7_sign m0 a1)
  delta fX7_sign
  refine ge_aload_n 0 DX7_sign_0 rfl ?_
  refine ge_getR (i := 281) DX7_sign_1 fl_X7_18 is_294 (by decide) rfl ?_
  refine ge_aload_n 0 DX7_sign_4 rfl ?_
  refine ge_getI DX7_sign_5 fl_X7_9 is_294 (by decide) rfl ?_
  refine ge_callVi0 (st := []) cm_X7_66 DX7_sign_8 is_281 rfl (okX0_at (kl K) X 281 is_281 m0 (m0 294 2)) rfl rfl (Nat.le_of_ble_eq_true rfl) (by decide) ⟨rfl, rfl⟩ ⟨Nat.zero_le _, Nat.zero_le _⟩ (fun r2 m1 => ?_)
  refine ge_iload_n 1 DX7_sign_11 rfl ?_
  refine ge_icmp_eq (tgt := 17) DX7_sign_12 (by decide) ?_ ?_
  · refine ge_aload_n 0 DX7_sign_17 rfl ?_
    refine ge_dup DX7_sign_18 rfl ?_
    refine ge_getI DX7_sign_19 fl_X7_9 is_294 (by decide) rfl ?_
    refine ge_iconst (v := (1 : Int32)) DX7_sign_22 rfl ?_
    refine ge_iadd DX7_sign_23 ?_
    refine ge_put DX7_sign_24 fp_X7_9 is_294 (by decide) rfl (fun m3 => ?_)
    refine ge_iconst (v := (1 : Int32)) DX7_sign_27 rfl ?_
    exact ge_zretc rfl rfl DX7_sign_28
  · refine ge_iconst (v := (0 : Int32)) DX7_sign_15 rfl ?_
    exact ge_zretc rfl rfl DX7_sign_16
abbrev gX7_pattern (K : Kt) (X : Xt) := GE (R := Int32) K rmX7_pattern X cX7_pattern 3 RX7 (some .boolean) (finM K X ιI 0 0)
set_option maxHeartbeats 4000000 in
set_option maxRecDepth 100000 in
theorem lX7_pattern_L3 (K : Kt) (X : Xt) {k26 : Mem → Option (Int32 × Mem)} {k44 : Mem → Option (Int32 × Mem)} (q2 : Nat) (hq2 : Is 3 q2) (hk26 : ∀ (m4 : Mem), gX7_pattern K X 0 0 26 [] [] m4 (k26 m4)) (hk44 : ∀ (m6 : Mem), gX7_pattern K X 0 0 44 [] [] m6 (k44 m6)) :
    ∀ (n : Nat) (m1 : Mem) (x3 : Int32), gX7_pattern K X 0 0 3 [(0, .ref (xad X 294)), (1, .ref (xad X q2)), (2, .int x3)] [] m1 (fX7_pattern_L3 k26 k44 q2 n m1 x3) := by
  intro n
  induction n with
  | zero => intro m1 x3; exact ge_none
  | succ n ih =>
    intro m1 x3
    show gX7_pattern K X 0 0 3 [(0, .ref (xad X 294)), (1, .ref (xad X q2)), (2, .int x3)] [] m1 (fX7_pattern_L3_b k26 k44 q2 (fX7_pattern_L3 k26 k44 q2 n) m1 x3)
    delta fX7_pattern_L3_b
    refine ge_iload_n 2 DX7_pattern_3 rfl ?_
    refine ge_if_lt (tgt := 44) DX7_pattern_4 (by decide) ?_ ?_
    · refine ge_sub [] rfl ?_
      exact hk44 m1
    · refine ge_aload_n 1 DX7_pattern_7 rfl ?_
      refine ge_aload_n 0 DX7_pattern_8 rfl ?_
      refine ge_getR (i := 281) DX7_pattern_9 fl_X7_18 is_294 (by decide) rfl ?_
      refine ge_aload_n 0 DX7_pattern_12 rfl ?_
      refine ge_getI DX7_pattern_13 fl_X7_9 is_294 (by decide) rfl ?_
      refine ge_callVi0 (st := [.ref (xad X q2)]) cm_X7_66 DX7_pattern_16 is_281 rfl (okX0_at (kl K) X 281 is_281 m1 (m1 294 2)) rfl rfl (Nat.le_of_ble_eq_true rfl) (by decide) ⟨rfl, rfl⟩ ⟨Nat.zero_le _, Nat.zero_le _⟩ (fun r9 m8 => ?_)
      refine ge_iload_n 2 DX7_pattern_19 rfl ?_
      refine ge_callVi0 (st := []) cm_X7_88 DX7_pattern_20 hq2 rfl (okX3_addSign (kl K) X q2 hq2 m8 r9 x3) rfl rfl (Nat.le_of_ble_eq_true rfl) (by decide) ⟨rfl, rfl⟩ ⟨Nat.zero_le _, Nat.zero_le _⟩ (fun r11 m10 => ?_)
      refine ge_if_ne (tgt := 28) DX7_pattern_23 (by decide) ?_ ?_
      · refine ge_sub [] rfl ?_
        exact hk26 m10
      · refine ge_aload_n 0 DX7_pattern_28 rfl ?_
        refine ge_dup DX7_pattern_29 rfl ?_
        refine ge_getI DX7_pattern_30 fl_X7_9 is_294 (by decide) rfl ?_
        refine ge_iconst (v := (1 : Int32)) DX7_pattern_33 rfl ?_
        refine ge_iadd DX7_pattern_34 ?_
        refine ge_put DX7_pattern_35 fp_X7_9 is_294 (by decide) rfl (fun m12 => ?_)
        refine ge_iinc 2 (v := (x3 + (-1 : Int32))) (ls' := [(2, .int (x3 + (-1 : Int32))), (0, .ref (xad X 294)), (1, .ref (xad X q2))]) DX7_pattern_38 rfl rfl (by decide) rfl ?_
        refine ge_goto (tgt := 3) DX7_pattern_41 (by decide) ?_
        refine ge_sub [1, 2, 0] rfl ?_
        exact ih m12 (x3 + (-1 : Int32))
set_option maxHeartbeats 4000000 in
set_option maxRecDepth 100000 in
theorem okX7_pattern (l : Launch) (X : Xt) (m0 : Mem) (a1 : Nat) (ha1 : Is 3 a1) : Ct l yX7_pattern cX7_pattern 3 (some .boolean) rmX7_pattern ιI X [.ref (xad X 294), .ref (xad X a1)] m0 (fX7_pattern m0 a1) := by
  refine ct_of (own := RX7) (ls := [(0, .ref (xad X 294)), (1, .ref (xad X a1))]) (by decide) rfl rfl (Nat.le_of_ble_eq_true rfl) (fun K => ?_)
  show gX7_pattern K X 0 0 0 [(0, .ref (xad X 294)), (1, .ref (xad X a1))] [] m0 (fX7_pattern m0 a1)
  delta fX7_pattern
  refine ge_bipush (v := (11 : Int32)) DX7_pattern_0 rfl ?_
  refine ge_istore_n (ls' := [(2, .int (11 : Int32)), (0, .ref (xad X 294)), (1, .ref (xad X a1))]) DX7_pattern_2 (by decide) rfl ?_
  refine ge_sub [1, 2, 0] rfl ?_
  refine lX7_pattern_L3 K X a1 ha1 (fun m5 => ?_) (fun m7 => ?_) 5000 m0 (11 : Int32)
  · refine ge_iconst (v := (0 : Int32)) DX7_pattern_26 rfl ?_
    exact ge_zretc rfl rfl DX7_pattern_27
  · refine ge_iconst (v := (1 : Int32)) DX7_pattern_44 rfl ?_
    exact ge_zretc rfl rfl DX7_pattern_45
abbrev gX7_letter (K : Kt) (X : Xt) := GE (R := Int32) K rmX7_letter X cX7_letter 3 RX7 (some .boolean) (finM K X ιI 0 0)
set_option maxHeartbeats 4000000 in
set_option maxRecDepth 100000 in
theorem okX7_letter (l : Launch) (X : Xt) (m0 : Mem) (a1 : Nat) (ha1 : Is 3 a1) : Ct l yX7_letter cX7_letter 3 (some .boolean) rmX7_letter ιI X [.ref (xad X 294), .ref (xad X a1)] m0 (fX7_letter m0 a1) := by
  refine ct_of (own := RX7) (ls := [(0, .ref (xad X 294)), (1, .ref (xad X a1))]) (by decide) rfl rfl (Nat.le_of_ble_eq_true rfl) (fun K => ?_)
  show gX7_letter K X 0 0 0 [(0, .ref (xad X 294)), (1, .ref (xad X a1))] [] m0 (fX7_letter m0 a1)
  delta fX7_letter
  refine ge_aload_n 0 DX7_letter_0 rfl ?_
  refine ge_getR (i := 281) DX7_letter_1 fl_X7_18 is_294 (by decide) rfl ?_
  refine ge_aload_n 0 DX7_letter_4 rfl ?_
  refine ge_getI DX7_letter_5 fl_X7_9 is_294 (by decide) rfl ?_
  refine ge_callVi0 (st := []) cm_X7_66 DX7_letter_8 is_281 rfl (okX0_at (kl K) X 281 is_281 m0 (m0 294 2)) rfl rfl (Nat.le_of_ble_eq_true rfl) (by decide) ⟨rfl, rfl⟩ ⟨Nat.zero_le _, Nat.zero_le _⟩ (fun r2 m1 => ?_)
  refine ge_callSi0 (st := []) cm_X7_95 DX7_letter_11 (okX10_letterOf (kl K) X m1 r2) rfl rfl (Nat.le_of_ble_eq_true rfl) (by decide) ⟨rfl, rfl⟩ ⟨Nat.zero_le _, Nat.zero_le _⟩ (fun r4 m3 => ?_)
  refine ge_istore_n (ls' := [(2, .int r4), (0, .ref (xad X 294)), (1, .ref (xad X a1))]) DX7_letter_14 (by decide) rfl ?_
  refine ge_iload_n 0 DX7_letter_15 rfl ?_
  refine ge_iconst (v := (-1 : Int32)) DX7_letter_16 rfl ?_
  refine ge_icmp_eq (tgt := 32) DX7_letter_17 (by decide) ?_ ?_
  · refine ge_iconst (v := (0 : Int32)) DX7_letter_32 rfl ?_
    exact ge_zretc rfl rfl DX7_letter_33
  · refine ge_aload_n 2 DX7_letter_20 rfl ?_
    refine ge_getR (i := (a1 + 1)) DX7_letter_21 fl_X7_108 ha1 (by decide) rfl ?_
    refine ge_iload_n 0 DX7_letter_24 rfl ?_
    refine ge_aaldD DX7_letter_25 (is3_4 ha1) (fun hb5 => ?_)
    refine ge_getI DX7_letter_26 fl_X7_112 (isD (is3_4 ha1) hb5) (by decide) rfl ?_
    refine ge_if_ne (tgt := 34) DX7_letter_29 (by decide) ?_ ?_
    · refine ge_iconst (v := (0 : Int32)) DX7_letter_32 rfl ?_
      exact ge_zretc rfl rfl DX7_letter_33
    · refine ge_aload_n 1 DX7_letter_34 rfl ?_
      refine ge_dup DX7_letter_35 rfl ?_
      refine ge_getI DX7_letter_36 fl_X7_9 is_294 (by decide) rfl ?_
      refine ge_iconst (v := (1 : Int32)) DX7_letter_39 rfl ?_
      refine ge_iadd DX7_letter_40 ?_
      refine ge_put DX7_letter_41 fp_X7_9 is_294 (by decide) rfl (fun m6 => ?_)
      refine ge_iconst (v := (1 : Int32)) DX7_letter_44 rfl ?_
      exact ge_zretc rfl rfl DX7_letter_45
abbrev gX7_number (K : Kt) (X : Xt) := GE (R := Int32) K rmX7_number X cX7_number 6 RX7 (some .int) (finM K X ιI 0 0)
set_option maxHeartbeats 4000000 in
set_option maxRecDepth 100000 in
theorem lX7_number_L11 (K : Kt) (X : Xt) {k72 : Mem → Int32 → Option (Int32 × Mem)} (y3 : Int32) (y4 : Int32) (y5 : Int32)  (hk72 : ∀ (m8 : Mem) (x9 : Int32), gX7_number K X 0 0 72 [(0, .ref (xad X 294)), (1, .int y3), (2, .int y4), (3, .int y5), (4, .int x9)] [] m8 (k72 m8 x9)) :
    ∀ (n : Nat) (m2 : Mem) (x6 : Int32) (x7 : Int32), gX7_number K X 0 0 11 [(0, .ref (xad X 294)), (1, .int y3), (2, .int y4), (3, .int y5), (4, .int x6), (5, .int x7)] [] m2 (fX7_number_L11 k72 y3 y4 y5 n m2 x6 x7) := by
  intro n
  induction n with
  | zero => intro m2 x6 x7; exact ge_none
  | succ n ih =>
    intro m2 x6 x7
    show gX7_number K X 0 0 11 [(0, .ref (xad X 294)), (1, .int y3), (2, .int y4), (3, .int y5), (4, .int x6), (5, .int x7)] [] m2 (fX7_number_L11_b k72 y3 y4 y5 (fX7_number_L11 k72 y3 y4 y5 n) m2 x6 x7)
    delta fX7_number_L11_b
    refine ge_iload 5 DX7_number_11 rfl ?_
    refine ge_iconst (v := (3 : Int32)) DX7_number_13 rfl ?_
    refine ge_icmp_ge (tgt := 72) DX7_number_14 (by decide) ?_ ?_
    · refine ge_aload_n 0 DX7_number_17 rfl ?_
      refine ge_getR (i := 281) DX7_number_18 fl_X7_18 is_294 (by decide) rfl ?_
      refine ge_aload_n 0 DX7_number_21 rfl ?_
      refine ge_getI DX7_number_22 fl_X7_9 is_294 (by decide) rfl ?_
      refine ge_callVi0 (st := []) cm_X7_66 DX7_number_25 is_281 rfl (okX0_at (kl K) X 281 is_281 m2 (m2 294 2)) rfl rfl (Nat.le_of_ble_eq_true rfl) (by decide) ⟨rfl, rfl⟩ ⟨Nat.zero_le _, Nat.zero_le _⟩ (fun r17 m16 => ?_)
      refine ge_callSi0 (st := []) cm_X7_117 DX7_number_28 (okX10_isDigit (kl K) X m16 r17) rfl rfl (Nat.le_of_ble_eq_true rfl) (by decide) ⟨rfl, rfl⟩ ⟨Nat.zero_le _, Nat.zero_le _⟩ (fun r19 m18 => ?_)
      refine ge_if_eq (tgt := 72) DX7_number_31 (by decide) ?_ ?_
      · refine ge_sub [0, 1, 2, 3, 4] rfl ?_
        exact hk72 m18 x6
      · refine ge_bipush (v := (10 : Int32)) DX7_number_34 rfl ?_
        refine ge_iload 4 DX7_number_36 rfl ?_
        refine ge_imul DX7_number_38 ?_
        refine ge_aload_n 0 DX7_number_39 rfl ?_
        refine ge_getR (i := 281) DX7_number_40 fl_X7_18 is_294 (by decide) rfl ?_
        refine ge_aload_n 0 DX7_number_43 rfl ?_
        refine ge_getI DX7_number_44 fl_X7_9 is_294 (by decide) rfl ?_
        refine ge_callVi0 (st := [.int ((10 : Int32) * x6)]) cm_X7_66 DX7_number_47 is_281 rfl (okX0_at (kl K) X 281 is_281 m18 (m18 294 2)) rfl rfl (Nat.le_of_ble_eq_true rfl) (by decide) ⟨rfl, rfl⟩ ⟨Nat.zero_le _, Nat.zero_le _⟩ (fun r21 m20 => ?_)
        refine ge_iadd DX7_number_50 ?_
        refine ge_bipush (v := (48 : Int32)) DX7_number_51 rfl ?_
        refine ge_isub DX7_number_53 ?_
        refine ge_topi (fun x22 => ?_)
        refine ge_istore (ls' := [(4, .int x22), (0, .ref (xad X 294)), (1, .int y3), (2, .int y4), (3, .int y5), (5, .int x7)]) DX7_number_54 (by decide) rfl ?_
        refine ge_aload_n 1 DX7_number_56 rfl ?_
        refine ge_dup DX7_number_57 rfl ?_
        refine ge_getI DX7_number_58 fl_X7_9 is_294 (by decide) rfl ?_
        refine ge_iconst (v := (1 : Int32)) DX7_number_61 rfl ?_
        refine ge_iadd DX7_number_62 ?_
        refine ge_put DX7_number_63 fp_X7_9 is_294 (by decide) rfl (fun m23 => ?_)
        refine ge_iinc 5 (v := (x7 + (1 : Int32))) (ls' := [(5, .int (x7 + (1 : Int32))), (4, .int x22), (0, .ref (xad X 294)), (1, .int y3), (2, .int y4), (3, .int y5)]) DX7_number_66 rfl rfl (by decide) rfl ?_
        refine ge_goto (tgt := 11) DX7_number_69 (by decide) ?_
        refine ge_sub [2, 3, 4, 5, 1, 0] rfl ?_
        exact ih m23 x22 (x7 + (1 : Int32))
    · refine ge_sub [0, 1, 2, 3, 4] rfl ?_
      exact hk72 m2 x6
set_option maxHeartbeats 4000000 in
set_option maxRecDepth 100000 in
theorem okX7_number (l : Launch) (X : Xt) (m0 : Mem) (a1 : Int32) (a2 : Int32) : Ct l yX7_number cX7_number 6 (some .int) rmX7_number ιI X [.ref (xad X 294), .int a1, .int a2] m0 (fX7_number m0 a1 a2) := by
  refine ct_of (own := RX7) (ls := [(0, .ref (xad X 294)), (1, .int a1), (2, .int a2)]) (by decide) rfl rfl (Nat.le_of_ble_eq_true rfl) (fun K => ?_)
  show gX7_number K X 0 0 0 [(0, .ref (xad X 294)), (1, .int a1), (2, .int a2)] [] m0 (fX7_number m0 a1 a2)
  delta fX7_number
  refine ge_aload_n 0 DX7_number_0 rfl ?_
  refine ge_getI DX7_number_1 fl_X7_9 is_294 (by decide) rfl ?_
  refine ge_topi (fun x1 => ?_)
  refine ge_istore_n (ls' := [(3, .int x1), (0, .ref (xad X 294)), (1, .int a1), (2, .int a2)]) DX7_number_4 (by decide) rfl ?_
  refine ge_iconst (v := (0 : Int32)) DX7_number_5 rfl ?_
  refine ge_istore (ls' := [(4, .int (0 : Int32)), (3, .int x1), (0, .ref (xad X 294)), (1, .int a1), (2, .int a2)]) DX7_number_6 (by decide) rfl ?_
  refine ge_iconst (v := (0 : Int32)) DX7_number_8 rfl ?_
  refine ge_istore (ls' := [(5, .int (0 : Int32)), (4, .int (0 : Int32)), (3, .int x1), (0, .ref (xad X 294)), (1, .int a1), (2, .int a2)]) DX7_number_9 (by decide) rfl ?_
  refine ge_sub [3, 4, 5, 2, 1, 0] rfl ?_
  refine lX7_number_L11 K X a1 a2 x1 (fun m10 x11 => ?_) 5000 m0 (0 : Int32) (0 : Int32)
  · refine ge_aload_n 0 DX7_number_72 rfl ?_
    refine ge_getI DX7_number_73 fl_X7_9 is_294 (by decide) rfl ?_
    refine ge_iload_n 3 DX7_number_76 rfl ?_
    refine ge_jn (P := fun k => ∀ (m12 : Mem), gX7_number K X 0 0 90 [(0, .ref (xad X 294)), (3, .int x1)] [] m12 (k m12)) (fun m12 => ?_) (fun j90 hj90 => ?_)
    · refine ge_aload_n 0 DX7_number_90 rfl ?_
      refine ge_iload_n 1 DX7_number_91 rfl ?_
      refine ge_put DX7_number_92 fp_X7_9 is_294 (by decide) rfl (fun m13 => ?_)
      refine ge_iconst (v := (-1 : Int32)) DX7_number_95 rfl ?_
      exact ge_iret rfl DX7_number_96
    refine ge_icmp_eq (tgt := 90) DX7_number_77 (by decide) ?_ ?_
    · refine ge_sub [0, 3] rfl ?_
      exact hj90 m10
    · refine ge_iload 4 DX7_number_80 rfl ?_
      refine ge_iload_n 1 DX7_number_82 rfl ?_
      refine ge_iload_n 2 DX7_number_83 rfl ?_
      refine ge_callSi0 (st := []) cm_X7_75 DX7_number_84 (okX10_within (kl K) X m10 x11 a1 a2) rfl rfl (Nat.le_of_ble_eq_true rfl) (by decide) ⟨rfl, rfl⟩ ⟨Nat.zero_le _, Nat.zero_le _⟩ (fun r15 m14 => ?_)
      refine ge_if_ne (tgt := 97) DX7_number_87 (by decide) ?_ ?_
      · refine ge_sub [0, 3] rfl ?_
        exact hj90 m14
      · refine ge_iload 4 DX7_number_97 rfl ?_
        exact ge_iret rfl DX7_number_99
abbrev gX7_rule (K : Kt) (X : Xt) := GE (R := Int32) K rmX7_rule X cX7_rule 5 RX7 (some .boolean) (finM K X ιI 0 0)
set_option maxHeartbeats 4000000 in
set_option maxRecDepth 100000 in
theorem okX7_rule (l : Launch) (X : Xt) (m0 : Mem) (a1 : Nat) (ha1 : Is 3 a1) : Ct l yX7_rule cX7_rule 5 (some .boolean) rmX7_rule ιI X [.ref (xad X 294), .ref (xad X a1)] m0 (fX7_rule m0 a1) := by
  refine ct_of (own := RX7) (ls := [(0, .ref (xad X 294)), (1, .ref (xad X a1))]) (by decide) rfl rfl (Nat.le_of_ble_eq_true rfl) (fun K => ?_)
  show gX7_rule K X 0 0 0 [(0, .ref (xad X 294)), (1, .ref (xad X a1))] [] m0 (fX7_rule m0 a1)
  delta fX7_rule
  refine ge_aload_n 0 DX7_rule_0 rfl ?_
  refine ge_getR (i := 281) DX7_rule_1 fl_X7_18 is_294 (by decide) rfl ?_
  refine ge_aload_n 0 DX7_rule_4 rfl ?_
  refine ge_getI DX7_rule_5 fl_X7_9 is_294 (by decide) rfl ?_
  refine ge_callVi0 (st := []) cm_X7_66 DX7_rule_8 is_281 rfl (okX0_at (kl K) X 281 is_281 m0 (m0 294 2)) rfl rfl (Nat.le_of_ble_eq_true rfl) (by decide) ⟨rfl, rfl⟩ ⟨Nat.zero_le _, Nat.zero_le _⟩ (fun r2 m1 => ?_)
  refine ge_callSi0 (st := []) cm_X7_95 DX7_rule_11 (okX10_letterOf (kl K) X m1 r2) rfl rfl (Nat.le_of_ble_eq_true rfl) (by decide) ⟨rfl, rfl⟩ ⟨Nat.zero_le _, Nat.zero_le _⟩ (fun r4 m3 => ?_)
  refine ge_istore_n (ls' := [(2, .int r4), (0, .ref (xad X 294)), (1, .ref (xad X a1))]) DX7_rule_14 (by decide) rfl ?_
  refine ge_aload_n 1 DX7_rule_15 rfl ?_
  refine ge_aload_n 2 DX7_rule_16 rfl ?_
  refine ge_callVi0 (st := []) cm_X7_98 DX7_rule_17 is_294 rfl (okX7_letter (kl K) X m3 a1 ha1) rfl rfl (Nat.le_of_ble_eq_true rfl) (by decide) ⟨rfl, rfl⟩ ⟨Nat.zero_le _, Nat.zero_le _⟩ (fun r6 m5 => ?_)
  refine ge_if_ne (tgt := 25) DX7_rule_20 (by decide) ?_ ?_
  · refine ge_iconst (v := (0 : Int32)) DX7_rule_23 rfl ?_
    exact ge_zretc rfl rfl DX7_rule_24
  · refine ge_aload_n 1 DX7_rule_25 rfl ?_
    refine ge_getR (i := 281) DX7_rule_26 fl_X7_18 is_294 (by decide) rfl ?_
    refine ge_aload_n 1 DX7_rule_29 rfl ?_
    refine ge_getI DX7_rule_30 fl_X7_9 is_294 (by decide) rfl ?_
    refine ge_callVi0 (st := []) cm_X7_66 DX7_rule_33 is_281 rfl (okX0_at (kl K) X 281 is_281 m5 (m5 294 2)) rfl rfl (Nat.le_of_ble_eq_true rfl) (by decide) ⟨rfl, rfl⟩ ⟨Nat.zero_le _, Nat.zero_le _⟩ (fun r8 m7 => ?_)
    refine ge_istore_n (ls' := [(3, .int r8), (2, .int r4), (0, .ref (xad X 294)), (1, .ref (xad X a1))]) DX7_rule_36 (by decide) rfl ?_
    refine ge_iload_n 0 DX7_rule_37 rfl ?_
    refine ge_bipush (v := (35 : Int32)) DX7_rule_38 rfl ?_
    refine ge_jn (P := fun k => gX7_rule K X 0 0 57 [(0, .ref (xad X 294)), (1, .ref (xad X a1)), (2, .int r4), (3, .int r8)] [] m7 k) ?_ (fun j57 hj57 => ?_)
    · refine ge_aload_n 0 DX7_rule_57 rfl ?_
      refine ge_dup DX7_rule_58 rfl ?_
      refine ge_getI DX7_rule_59 fl_X7_9 is_294 (by decide) rfl ?_
      refine ge_iconst (v := (1 : Int32)) DX7_rule_62 rfl ?_
      refine ge_iadd DX7_rule_63 ?_
      refine ge_put DX7_rule_64 fp_X7_9 is_294 (by decide) rfl (fun m9 => ?_)
      refine ge_aload_n 0 DX7_rule_67 rfl ?_
      refine ge_getR (i := 281) DX7_rule_68 fl_X7_18 is_294 (by decide) rfl ?_
      refine ge_aload_n 0 DX7_rule_71 rfl ?_
      refine ge_getI DX7_rule_72 fl_X7_9 is_294 (by decide) rfl ?_
      refine ge_callVi0 (st := []) cm_X7_66 DX7_rule_75 is_281 rfl (okX0_at (kl K) X 281 is_281 m9 (m9 294 2)) rfl rfl (Nat.le_of_ble_eq_true rfl) (by decide) ⟨rfl, rfl⟩ ⟨Nat.zero_le _, Nat.zero_le _⟩ (fun r11 m10 => ?_)
      refine ge_callSi0 (st := []) cm_X7_95 DX7_rule_78 (okX10_letterOf (kl K) X m10 r11) rfl rfl (Nat.le_of_ble_eq_true rfl) (by decide) ⟨rfl, rfl⟩ ⟨Nat.zero_le _, Nat.zero_le _⟩ (fun r13 m12 => ?_)
      refine ge_istore (ls' := [(4, .int r13), (0, .ref (xad X 294)), (1, .ref (xad X a1)), (2, .int r4), (3, .int r8)]) DX7_rule_81 (by decide) rfl ?_
      refine ge_iload_n 4 DX7_rule_83 rfl ?_
      refine ge_bipush (v := (60 : Int32)) DX7_rule_84 rfl ?_
      refine ge_jn (P := fun k => ∀ (m14 : Mem) (x15 : Int32), gX7_rule K X 0 0 133 [(1, .ref (xad X a1)), (2, .int r4), (3, .int r8), (4, .int x15)] [] m14 (k m14 x15)) (fun m14 x15 => ?_) (fun j133 hj133 => ?_)
      · refine ge_aload_n 0 DX7_rule_133 rfl ?_
        refine ge_iload_n 1 DX7_rule_134 rfl ?_
        refine ge_iload_n 2 DX7_rule_135 rfl ?_
        refine ge_iload 3 DX7_rule_136 rfl ?_
        refine ge_callVv0 (st := []) cm_X7_104 DX7_rule_138 ha1 rfl (okX3_addRule (kl K) X a1 ha1 m14 r4 r8 x15) rfl rfl (Nat.le_of_ble_eq_true rfl) (by decide) ⟨rfl, rfl⟩ ⟨Nat.zero_le _, Nat.zero_le _⟩ (fun m16 => ?_)
        refine ge_iconst (v := (1 : Int32)) DX7_rule_141 rfl ?_
        exact ge_zretc rfl rfl DX7_rule_142
      refine ge_icmp_ne (tgt := 99) DX7_rule_86 (by decide) ?_ ?_
      · refine ge_aload_n 1 DX7_rule_89 rfl ?_
        refine ge_aload_n 2 DX7_rule_90 rfl ?_
        refine ge_callVi0 (st := []) cm_X7_98 DX7_rule_91 is_294 rfl (okX7_letter (kl K) X m12 a1 ha1) rfl rfl (Nat.le_of_ble_eq_true rfl) (by decide) ⟨rfl, rfl⟩ ⟨Nat.zero_le _, Nat.zero_le _⟩ (fun r18 m17 => ?_)
        refine ge_if_ne (tgt := 133) DX7_rule_94 (by decide) ?_ ?_
        · refine ge_iconst (v := (0 : Int32)) DX7_rule_97 rfl ?_
          exact ge_zretc rfl rfl DX7_rule_98
        · refine ge_sub [2, 3, 4, 0] rfl ?_
          exact hj133 m17 r13
      · refine ge_iload_n 4 DX7_rule_99 rfl ?_
        refine ge_bipush (v := (35 : Int32)) DX7_rule_100 rfl ?_
        refine ge_jn (P := fun k => ∀ (m19 : Mem) (v20 : Int32), gX7_rule K X 0 0 123 [(1, .ref (xad X a1)), (2, .int r4), (3, .int r8)] [.int v20] m19 (k m19 v20)) (fun m19 v20 => ?_) (fun j123 hj123 => ?_)
        · refine ge_istore (ls' := [(4, .int v20), (1, .ref (xad X a1)), (2, .int r4), (3, .int r8)]) DX7_rule_123 (by decide) rfl ?_
          refine ge_iload 0 DX7_rule_125 rfl ?_
          refine ge_iconst (v := (-1 : Int32)) DX7_rule_127 rfl ?_
          refine ge_icmp_ne (tgt := 133) DX7_rule_128 (by decide) ?_ ?_
          · refine ge_iconst (v := (0 : Int32)) DX7_rule_131 rfl ?_
            exact ge_zretc rfl rfl DX7_rule_132
          · refine ge_sub [1, 2, 3, 0] rfl ?_
            exact hj133 m19 v20
        refine ge_icmp_ne (tgt := 116) DX7_rule_102 (by decide) ?_ ?_
        · refine ge_aload_n 1 DX7_rule_105 rfl ?_
          refine ge_iconst (v := (0 : Int32)) DX7_rule_106 rfl ?_
          refine ge_sipush (v := (255 : Int32)) DX7_rule_107 rfl ?_
          refine ge_callVi0 (st := []) cm_X7_101 DX7_rule_110 is_294 rfl (okX7_number (kl K) X m12 (0 : Int32) (255 : Int32)) rfl rfl (Nat.le_of_ble_eq_true rfl) (by decide) ⟨rfl, rfl⟩ ⟨Nat.zero_le _, Nat.zero_le _⟩ (fun r22 m21 => ?_)
          refine ge_goto (tgt := 123) DX7_rule_113 (by decide) ?_
          refine ge_sub [2, 3, 4] rfl ?_
          exact hj123 m21 r22
        · refine ge_aload_n 1 DX7_rule_116 rfl ?_
          refine ge_iconst (v := (2 : Int32)) DX7_rule_117 rfl ?_
          refine ge_bipush (v := (9 : Int32)) DX7_rule_118 rfl ?_
          refine ge_callVi0 (st := []) cm_X7_101 DX7_rule_120 is_294 rfl (okX7_number (kl K) X m12 (2 : Int32) (9 : Int32)) rfl rfl (Nat.le_of_ble_eq_true rfl) (by decide) ⟨rfl, rfl⟩ ⟨Nat.zero_le _, Nat.zero_le _⟩ (fun r24 m23 => ?_)
          refine ge_sub [2, 3, 4] rfl ?_
          exact hj123 m23 r24
    refine ge_icmp_eq (tgt := 57) DX7_rule_40 (by decide) ?_ ?_
    · refine ge_sub [2, 3, 1, 0] rfl ?_
      exact hj57
    · refine ge_iload_n 0 DX7_rule_43 rfl ?_
      refine ge_bipush (v := (47 : Int32)) DX7_rule_44 rfl ?_
      refine ge_icmp_eq (tgt := 57) DX7_rule_46 (by decide) ?_ ?_
      · refine ge_sub [2, 3, 1, 0] rfl ?_
        exact hj57
      · refine ge_iload_n 0 DX7_rule_49 rfl ?_
        refine ge_bipush (v := (60 : Int32)) DX7_rule_50 rfl ?_
        refine ge_icmp_eq (tgt := 57) DX7_rule_52 (by decide) ?_ ?_
        · refine ge_sub [2, 3, 1, 0] rfl ?_
          exact hj57
        · refine ge_iconst (v := (0 : Int32)) DX7_rule_55 rfl ?_
          exact ge_zretc rfl rfl DX7_rule_56
abbrev gX7_rules (K : Kt) (X : Xt) := GE (R := Int32) K rmX7_rules X cX7_rules 3 RX7 (some .boolean) (finM K X ιI 0 0)
set_option maxHeartbeats 4000000 in
set_option maxRecDepth 100000 in
theorem lX7_rules_L2 (K : Kt) (X : Xt) {k41 : Mem → Option (Int32 × Mem)} {k49 : Mem → Option (Int32 × Mem)} (q2 : Nat) (hq2 : Is 3 q2) (hk41 : ∀ (m4 : Mem), gX7_rules K X 0 0 41 [] [] m4 (k41 m4)) (hk49 : ∀ (m6 : Mem), gX7_rules K X 0 0 49 [] [] m6 (k49 m6)) :
    ∀ (n : Nat) (m1 : Mem) (x3 : Int32), gX7_rules K X 0 0 2 [(0, .ref (xad X 294)), (1, .ref (xad X q2)), (2, .int x3)] [] m1 (fX7_rules_L2 k41 k49 q2 n m1 x3) := by
  intro n
  induction n with
  | zero => intro m1 x3; exact ge_none
  | succ n ih =>
    intro m1 x3
    show gX7_rules K X 0 0 2 [(0, .ref (xad X 294)), (1, .ref (xad X q2)), (2, .int x3)] [] m1 (fX7_rules_L2_b k41 k49 q2 (fX7_rules_L2 k41 k49 q2 n) m1 x3)
    delta fX7_rules_L2_b
    refine ge_iload_n 2 DX7_rules_2 rfl ?_
    refine ge_iconst (v := (3 : Int32)) DX7_rules_3 rfl ?_
    refine ge_icmp_ge (tgt := 49) DX7_rules_4 (by decide) ?_ ?_
    · refine ge_aload_n 0 DX7_rules_7 rfl ?_
      refine ge_getR (i := 281) DX7_rules_8 fl_X7_18 is_294 (by decide) rfl ?_
      refine ge_aload_n 0 DX7_rules_11 rfl ?_
      refine ge_getI DX7_rules_12 fl_X7_9 is_294 (by decide) rfl ?_
      refine ge_callVi0 (st := []) cm_X7_66 DX7_rules_15 is_281 rfl (okX0_at (kl K) X 281 is_281 m1 (m1 294 2)) rfl rfl (Nat.le_of_ble_eq_true rfl) (by decide) ⟨rfl, rfl⟩ ⟨Nat.zero_le _, Nat.zero_le _⟩ (fun r9 m8 => ?_)
      refine ge_bipush (v := (44 : Int32)) DX7_rules_18 rfl ?_
      refine ge_icmp_ne (tgt := 49) DX7_rules_20 (by decide) ?_ ?_
      · refine ge_aload_n 0 DX7_rules_23 rfl ?_
        refine ge_dup DX7_rules_24 rfl ?_
        refine ge_getI DX7_rules_25 fl_X7_9 is_294 (by decide) rfl ?_
        refine ge_iconst (v := (1 : Int32)) DX7_rules_28 rfl ?_
        refine ge_iadd DX7_rules_29 ?_
        refine ge_put DX7_rules_30 fp_X7_9 is_294 (by decide) rfl (fun m10 => ?_)
        refine ge_aload_n 0 DX7_rules_33 rfl ?_
        refine ge_aload_n 1 DX7_rules_34 rfl ?_
        refine ge_callVi0 (st := []) cm_X7_92 DX7_rules_35 is_294 rfl (okX7_rule (kl K) X m10 q2 hq2) rfl rfl (Nat.le_of_ble_eq_true rfl) (by decide) ⟨rfl, rfl⟩ ⟨Nat.zero_le _, Nat.zero_le _⟩ (fun r12 m11 => ?_)
        refine ge_if_ne (tgt := 43) DX7_rules_38 (by decide) ?_ ?_
        · refine ge_sub [] rfl ?_
          exact hk41 m11
        · refine ge_iinc 2 (v := (x3 + (1 : Int32))) (ls' := [(2, .int (x3 + (1 : Int32))), (0, .ref (xad X 294)), (1, .ref (xad X q2))]) DX7_rules_43 rfl rfl (by decide) rfl ?_
          refine ge_goto (tgt := 2) DX7_rules_46 (by decide) ?_
          refine ge_sub [1, 2, 0] rfl ?_
          exact ih m11 (x3 + (1 : Int32))
      · refine ge_sub [] rfl ?_
        exact hk49 m8
    · refine ge_sub [] rfl ?_
      exact hk49 m1
set_option maxHeartbeats 4000000 in
set_option maxRecDepth 100000 in
theorem okX7_rules (l : Launch) (X : Xt) (m0 : Mem) (a1 : Nat) (ha1 : Is 3 a1) : Ct l yX7_rules cX7_rules 3 (some .boolean) rmX7_rules ιI X [.ref (xad X 294), .ref (xad X a1)] m0 (fX7_rules m0 a1) := by
  refine ct_of (own := RX7) (ls := [(0, .ref (xad X 294)), (1, .ref (xad X a1))]) (by decide) rfl rfl (Nat.le_of_ble_eq_true rfl) (fun K => ?_)
  show gX7_rules K X 0 0 0 [(0, .ref (xad X 294)), (1, .ref (xad X a1))] [] m0 (fX7_rules m0 a1)
  delta fX7_rules
  refine ge_iconst (v := (0 : Int32)) DX7_rules_0 rfl ?_
  refine ge_istore_n (ls' := [(2, .int (0 : Int32)), (0, .ref (xad X 294)), (1, .ref (xad X a1))]) DX7_rules_1 (by decide) rfl ?_
  refine ge_sub [1, 2, 0] rfl ?_
  refine lX7_rules_L2 K X a1 ha1 (fun m5 => ?_) (fun m7 => ?_) 5000 m0 (0 : Int32)
  · refine ge_iconst (v := (0 : Int32)) DX7_rules_41 rfl ?_
    exact ge_zretc rfl rfl DX7_rules_42
  · refine ge_iconst (v := (1 : Int32)) DX7_rules_49 rfl ?_
    exact ge_zretc rfl rfl DX7_rules_50
abbrev gX7_statement (K : Kt) (X : Xt) := GE (R := Int32) K rmX7_statement X cX7_statement 2 RX7 (some .boolean) (finM K X ιI 0 0)
set_option maxHeartbeats 4000000 in
set_option maxRecDepth 100000 in
theorem okX7_statement (l : Launch) (X : Xt) (m0 : Mem) : Ct l yX7_statement cX7_statement 2 (some .boolean) rmX7_statement ιI X [.ref (xad X 294)] m0 (fX7_statement m0) := by
  refine ct_of (own := RX7) (ls := [(0, .ref (xad X 294))]) (by decide) rfl rfl (Nat.le_of_ble_eq_true rfl) (fun K => ?_)
  show gX7_statement K X 0 0 0 [(0, .ref (xad X 294))] [] m0 (fX7_statement m0)
  delta fX7_statement
  refine ge_aload_n 0 DX7_statement_0 rfl ?_
  refine ge_getI DX7_statement_1 fl_X7_15 is_294 (by decide) rfl ?_
  refine ge_bipush (v := (12 : Int32)) DX7_statement_4 rfl ?_
  refine ge_icmp_lt (tgt := 11) DX7_statement_6 (by decide) ?_ ?_
  · refine ge_aload_n 0 DX7_statement_11 rfl ?_
    refine ge_getR (i := 9) DX7_statement_12 fl_X7_22 is_294 (by decide) rfl ?_
    refine ge_getR (i := 10) DX7_statement_15 fl_X7_44 is_9 (by decide) rfl ?_
    refine ge_aload_n 0 DX7_statement_18 rfl ?_
    refine ge_getI DX7_statement_19 fl_X7_15 is_294 (by decide) rfl ?_
    refine ge_aaldF DX7_statement_22 (fun hb1 => ?_)
    refine ge_astore_n (ls' := [(1, .ref (xad X (11 + 22 * ix (m0 294 3)))), (0, .ref (xad X 294))]) DX7_statement_23 (by decide) rfl ?_
    refine ge_aload_n 0 DX7_statement_24 rfl ?_
    refine ge_callVv0 (st := []) cm_X7_48 DX7_statement_25 (isF hb1) rfl (okX3_clear (kl K) X (11 + 22 * ix (m0 294 3)) (isF hb1) m0) rfl rfl (Nat.le_of_ble_eq_true rfl) (by decide) ⟨rfl, rfl⟩ ⟨Nat.zero_le _, Nat.zero_le _⟩ (fun m2 => ?_)
    refine ge_aload_n 1 DX7_statement_28 rfl ?_
    refine ge_aload_n 0 DX7_statement_29 rfl ?_
    refine ge_callVi0 (st := []) cm_X7_53 DX7_statement_30 is_294 rfl (okX7_kind (kl K) X m2 (11 + 22 * ix (m0 294 3)) (isF hb1)) rfl rfl (Nat.le_of_ble_eq_true rfl) (by decide) ⟨rfl, rfl⟩ ⟨Nat.zero_le _, Nat.zero_le _⟩ (fun r4 m3 => ?_)
    refine ge_if_eq (tgt := 73) DX7_statement_33 (by decide) ?_ ?_
    · refine ge_iconst (v := (0 : Int32)) DX7_statement_73 rfl ?_
      exact ge_zretc rfl rfl DX7_statement_74
    · refine ge_aload_n 1 DX7_statement_36 rfl ?_
      refine ge_aload_n 0 DX7_statement_37 rfl ?_
      refine ge_callVi0 (st := []) cm_X7_57 DX7_statement_38 is_294 rfl (okX7_name (kl K) X m3 (11 + 22 * ix (m0 294 3)) (isF hb1)) rfl rfl (Nat.le_of_ble_eq_true rfl) (by decide) ⟨rfl, rfl⟩ ⟨Nat.zero_le _, Nat.zero_le _⟩ (fun r6 m5 => ?_)
      refine ge_if_eq (tgt := 73) DX7_statement_41 (by decide) ?_ ?_
      · refine ge_iconst (v := (0 : Int32)) DX7_statement_73 rfl ?_
        exact ge_zretc rfl rfl DX7_statement_74
      · refine ge_aload_n 1 DX7_statement_44 rfl ?_
        refine ge_bipush (v := (58 : Int32)) DX7_statement_45 rfl ?_
        refine ge_callVi0 (st := []) cm_X7_40 DX7_statement_47 is_294 rfl (okX7_sign (kl K) X m5 (58 : Int32)) rfl rfl (Nat.le_of_ble_eq_true rfl) (by decide) ⟨rfl, rfl⟩ ⟨Nat.zero_le _, Nat.zero_le _⟩ (fun r8 m7 => ?_)
        refine ge_if_eq (tgt := 73) DX7_statement_50 (by decide) ?_ ?_
        · refine ge_iconst (v := (0 : Int32)) DX7_statement_73 rfl ?_
          exact ge_zretc rfl rfl DX7_statement_74
        · refine ge_aload_n 1 DX7_statement_53 rfl ?_
          refine ge_aload_n 0 DX7_statement_54 rfl ?_
          refine ge_callVi0 (st := []) cm_X7_60 DX7_statement_55 is_294 rfl (okX7_pattern (kl K) X m7 (11 + 22 * ix (m0 294 3)) (isF hb1)) rfl rfl (Nat.le_of_ble_eq_true rfl) (by decide) ⟨rfl, rfl⟩ ⟨Nat.zero_le _, Nat.zero_le _⟩ (fun r10 m9 => ?_)
          refine ge_if_eq (tgt := 73) DX7_statement_58 (by decide) ?_ ?_
          · refine ge_iconst (v := (0 : Int32)) DX7_statement_73 rfl ?_
            exact ge_zretc rfl rfl DX7_statement_74
          · refine ge_aload_n 1 DX7_statement_61 rfl ?_
            refine ge_aload_n 0 DX7_statement_62 rfl ?_
            refine ge_callVi0 (st := []) cm_X7_63 DX7_statement_63 is_294 rfl (okX7_rules (kl K) X m9 (11 + 22 * ix (m0 294 3)) (isF hb1)) rfl rfl (Nat.le_of_ble_eq_true rfl) (by decide) ⟨rfl, rfl⟩ ⟨Nat.zero_le _, Nat.zero_le _⟩ (fun r12 m11 => ?_)
            refine ge_if_eq (tgt := 73) DX7_statement_66 (by decide) ?_ ?_
            · refine ge_iconst (v := (0 : Int32)) DX7_statement_73 rfl ?_
              exact ge_zretc rfl rfl DX7_statement_74
            · refine ge_iconst (v := (1 : Int32)) DX7_statement_69 rfl ?_
              refine ge_goto (tgt := 74) DX7_statement_70 (by decide) ?_
              exact ge_zretc rfl rfl DX7_statement_74
  · refine ge_iconst (v := (0 : Int32)) DX7_statement_9 rfl ?_
    exact ge_zretc rfl rfl DX7_statement_10
abbrev gX7_fault (K : Kt) (X : Xt) := GE (R := Int32) K rmX7_fault X cX7_fault 2 RX7 (some .int) (finM K X ιI 0 0)
set_option maxHeartbeats 4000000 in
set_option maxRecDepth 100000 in
theorem lX7_fault_L18 (K : Kt) (X : Xt) {k31 : Mem → Option (Int32 × Mem)} {k60 : Mem → Option (Int32 × Mem)} {k82 : Mem → Option (Int32 × Mem)} {k93 : Mem → Option (Int32 × Mem)}   (hk31 : ∀ (m5 : Mem), gX7_fault K X 0 0 31 [(0, .ref (xad X 294))] [] m5 (k31 m5)) (hk60 : ∀ (m7 : Mem), gX7_fault K X 0 0 60 [(0, .ref (xad X 294))] [] m7 (k60 m7)) (hk82 : ∀ (m10 : Mem), gX7_fault K X 0 0 82 [(0, .ref (xad X 294))] [] m10 (k82 m10)) (hk93 : ∀ (m12 : Mem), gX7_fault K X 0 0 93 [(0, .ref (xad X 294))] [] m12 (k93 m12)) :
    ∀ (n : Nat) (m3 : Mem) (x4 : Int32), gX7_fault K X 0 0 18 [(0, .ref (xad X 294)), (1, .int x4)] [] m3 (fX7_fault_L18 k31 k60 k82 k93  n m3 x4) := by
  intro n
  induction n with
  | zero => intro m3 x4; exact ge_none
  | succ n ih =>
    intro m3 x4
    show gX7_fault K X 0 0 18 [(0, .ref (xad X 294)), (1, .int x4)] [] m3 (fX7_fault_L18_b k31 k60 k82 k93  (fX7_fault_L18 k31 k60 k82 k93  n) m3 x4)
    delta fX7_fault_L18_b
    refine ge_iload_n 1 DX7_fault_18 rfl ?_
    refine ge_bipush (v := (12 : Int32)) DX7_fault_19 rfl ?_
    refine ge_icmp_gt (tgt := 93) DX7_fault_21 (by decide) ?_ ?_
    · refine ge_sub [0] rfl ?_
      exact hk93 m3
    · refine ge_aload_n 0 DX7_fault_24 rfl ?_
      refine ge_callVi0 (st := []) cm_X7_31 DX7_fault_25 is_294 rfl (okX7_statement (kl K) X m3) rfl rfl (Nat.le_of_ble_eq_true rfl) (by decide) ⟨rfl, rfl⟩ ⟨Nat.zero_le _, Nat.zero_le _⟩ (fun r15 m14 => ?_)
      refine ge_if_ne (tgt := 36) DX7_fault_28 (by decide) ?_ ?_
      · refine ge_sub [0] rfl ?_
        exact hk31 m14
      · refine ge_aload_n 0 DX7_fault_36 rfl ?_
        refine ge_dup DX7_fault_37 rfl ?_
        refine ge_getI DX7_fault_38 fl_X7_15 is_294 (by decide) rfl ?_
        refine ge_iconst (v := (1 : Int32)) DX7_fault_41 rfl ?_
        refine ge_iadd DX7_fault_42 ?_
        refine ge_put DX7_fault_43 fp_X7_15 is_294 (by decide) rfl (fun m16 => ?_)
        refine ge_aload_n 0 DX7_fault_46 rfl ?_
        refine ge_getI DX7_fault_47 fl_X7_9 is_294 (by decide) rfl ?_
        refine ge_aload_n 0 DX7_fault_50 rfl ?_
        refine ge_getR (i := 281) DX7_fault_51 fl_X7_18 is_294 (by decide) rfl ?_
        refine ge_getI DX7_fault_54 fl_X7_35 is_281 (by decide) rfl ?_
        refine ge_icmp_ne (tgt := 73) DX7_fault_57 (by decide) ?_ ?_
        · refine ge_sub [0] rfl ?_
          exact hk60 m16
        · refine ge_aload_n 0 DX7_fault_73 rfl ?_
          refine ge_bipush (v := (59 : Int32)) DX7_fault_74 rfl ?_
          refine ge_callVi0 (st := []) cm_X7_40 DX7_fault_76 is_294 rfl (okX7_sign (kl K) X m16 (59 : Int32)) rfl rfl (Nat.le_of_ble_eq_true rfl) (by decide) ⟨rfl, rfl⟩ ⟨Nat.zero_le _, Nat.zero_le _⟩ (fun r18 m17 => ?_)
          refine ge_if_ne (tgt := 87) DX7_fault_79 (by decide) ?_ ?_
          · refine ge_sub [0] rfl ?_
            exact hk82 m17
          · refine ge_iinc 1 (v := (x4 + (1 : Int32))) (ls' := [(1, .int (x4 + (1 : Int32))), (0, .ref (xad X 294))]) DX7_fault_87 rfl rfl (by decide) rfl ?_
            refine ge_goto (tgt := 18) DX7_fault_90 (by decide) ?_
            refine ge_sub [1, 0] rfl ?_
            exact ih m17 (x4 + (1 : Int32))
set_option maxHeartbeats 4000000 in
set_option maxRecDepth 100000 in
theorem okX7_fault (l : Launch) (X : Xt) (m0 : Mem) : Ct l yX7_fault cX7_fault 2 (some .int) rmX7_fault ιI X [.ref (xad X 294)] m0 (fX7_fault m0) := by
  refine ct_of (own := RX7) (ls := [(0, .ref (xad X 294))]) (by decide) rfl rfl (Nat.le_of_ble_eq_true rfl) (fun K => ?_)
  show gX7_fault K X 0 0 0 [(0, .ref (xad X 294))] [] m0 (fX7_fault m0)
  delta fX7_fault
  refine ge_aload_n 0 DX7_fault_0 rfl ?_
  refine ge_iconst (v := (0 : Int32)) DX7_fault_1 rfl ?_
  refine ge_put DX7_fault_2 fp_X7_9 is_294 (by decide) rfl (fun m1 => ?_)
  refine ge_aload_n 0 DX7_fault_5 rfl ?_
  refine ge_aload_n 0 DX7_fault_6 rfl ?_
  refine ge_getR (i := 9) DX7_fault_7 fl_X7_22 is_294 (by decide) rfl ?_
  refine ge_getI DX7_fault_10 fl_X7_26 is_9 (by decide) rfl ?_
  refine ge_put DX7_fault_13 fp_X7_15 is_294 (by decide) rfl (fun m2 => ?_)
  refine ge_iconst (v := (0 : Int32)) DX7_fault_16 rfl ?_
  refine ge_istore_n (ls' := [(1, .int (0 : Int32)), (0, .ref (xad X 294))]) DX7_fault_17 (by decide) rfl ?_
  refine ge_sub [1, 0] rfl ?_
  refine lX7_fault_L18 K X  (fun m6 => ?_) (fun m8 => ?_) (fun m11 => ?_) (fun m13 => ?_) 5000 m2 (0 : Int32)
  · refine ge_aload_n 0 DX7_fault_31 rfl ?_
    refine ge_getI DX7_fault_32 fl_X7_9 is_294 (by decide) rfl ?_
    exact ge_iret rfl DX7_fault_35
  · refine ge_aload_n 0 DX7_fault_60 rfl ?_
    refine ge_getR (i := 9) DX7_fault_61 fl_X7_22 is_294 (by decide) rfl ?_
    refine ge_aload_n 0 DX7_fault_64 rfl ?_
    refine ge_getI DX7_fault_65 fl_X7_15 is_294 (by decide) rfl ?_
    refine ge_put DX7_fault_68 fp_X7_26 is_9 (by decide) rfl (fun m9 => ?_)
    refine ge_iconst (v := (-1 : Int32)) DX7_fault_71 rfl ?_
    exact ge_iret rfl DX7_fault_72
  · refine ge_aload_n 0 DX7_fault_82 rfl ?_
    refine ge_getI DX7_fault_83 fl_X7_9 is_294 (by decide) rfl ?_
    exact ge_iret rfl DX7_fault_86
  · refine ge_aload_n 0 DX7_fault_93 rfl ?_
    refine ge_getI DX7_fault_94 fl_X7_9 is_294 (by decide) rfl ?_
    exact ge_iret rfl DX7_fault_97
abbrev gX8_lookAtForms (K : Kt) (X : Xt) := GE (R := Unit) K rmX8_lookAtForms X cX8_lookAtForms 4 RX8 none (finM K X ιV 0 0)
set_option maxHeartbeats 4000000 in
set_option maxRecDepth 100000 in
theorem lX8_lookAtForms_L24 (K : Kt) (X : Xt) {k96 : Mem → Option (Unit × Mem)} (y8 : Int32)  (hk96 : ∀ (m10 : Mem), gX8_lookAtForms K X 0 0 96 [(0, .ref (xad X 287)), (1, .int y8)] [] m10 (k96 m10)) :
    ∀ (n : Nat) (m7 : Mem) (x9 : Int32), gX8_lookAtForms K X 0 0 24 [(0, .ref (xad X 287)), (1, .int y8), (2, .int x9)] [] m7 (fX8_lookAtForms_L24 k96 y8 n m7 x9) := by
  intro n
  induction n with
  | zero => intro m7 x9; exact ge_none
  | succ n ih =>
    intro m7 x9
    show gX8_lookAtForms K X 0 0 24 [(0, .ref (xad X 287)), (1, .int y8), (2, .int x9)] [] m7 (fX8_lookAtForms_L24_b k96 y8 (fX8_lookAtForms_L24 k96 y8 n) m7 x9)
    delta fX8_lookAtForms_L24_b
    refine ge_iload_n 2 DX8_lookAtForms_24 rfl ?_
    refine ge_aload_n 0 DX8_lookAtForms_25 rfl ?_
    refine ge_getR (i := 9) DX8_lookAtForms_26 fl_X8_43 is_287 (by decide) rfl ?_
    refine ge_getI DX8_lookAtForms_29 fl_X8_47 is_9 (by decide) rfl ?_
    refine ge_icmp_ge (tgt := 96) DX8_lookAtForms_32 (by decide) ?_ ?_
    · refine ge_aload_n 0 DX8_lookAtForms_35 rfl ?_
      refine ge_getR (i := 9) DX8_lookAtForms_36 fl_X8_43 is_287 (by decide) rfl ?_
      refine ge_getR (i := 10) DX8_lookAtForms_39 fl_X8_52 is_9 (by decide) rfl ?_
      refine ge_iload_n 2 DX8_lookAtForms_42 rfl ?_
      refine ge_aaldF DX8_lookAtForms_43 (fun hb12 => ?_)
      refine ge_astore_n (ls' := [(3, .ref (xad X (11 + 22 * ix x9))), (0, .ref (xad X 287)), (1, .int y8), (2, .int x9)]) DX8_lookAtForms_44 (by decide) rfl ?_
      refine ge_aload_n 1 DX8_lookAtForms_45 rfl ?_
      refine ge_getR (i := 288) DX8_lookAtForms_46 fl_X8_9 is_287 (by decide) rfl ?_
      refine ge_iload_n 2 DX8_lookAtForms_49 rfl ?_
      refine ge_dup2 DX8_lookAtForms_50 rfl rfl ?_
      refine ge_iald DX8_lookAtForms_51 is_288 al_288 ?_
      refine ge_aload_n 0 DX8_lookAtForms_52 rfl ?_
      refine ge_getI DX8_lookAtForms_53 fl_X8_56 (isF hb12) (by decide) rfl ?_
      refine ge_iload_n 2 DX8_lookAtForms_56 rfl ?_
      refine ge_ishr DX8_lookAtForms_57 ?_
      refine ge_iconst (v := (1 : Int32)) DX8_lookAtForms_58 rfl ?_
      refine ge_iand DX8_lookAtForms_59 ?_
      refine ge_iload_n 3 DX8_lookAtForms_60 rfl ?_
      refine ge_ishl DX8_lookAtForms_61 ?_
      refine ge_ior DX8_lookAtForms_62 ?_
      refine ge_iast DX8_lookAtForms_63 is_288 al_288 (fun m13 => ?_)
      refine ge_aload_n 1 DX8_lookAtForms_64 rfl ?_
      refine ge_getR (i := 289) DX8_lookAtForms_65 fl_X8_15 is_287 (by decide) rfl ?_
      refine ge_iload_n 2 DX8_lookAtForms_68 rfl ?_
      refine ge_dup2 DX8_lookAtForms_69 rfl rfl ?_
      refine ge_iald DX8_lookAtForms_70 is_289 al_289 ?_
      refine ge_aload_n 0 DX8_lookAtForms_71 rfl ?_
      refine ge_getI DX8_lookAtForms_72 fl_X8_61 (isF hb12) (by decide) rfl ?_
      refine ge_aload_n 0 DX8_lookAtForms_75 rfl ?_
      refine ge_getI DX8_lookAtForms_76 fl_X8_56 (isF hb12) (by decide) rfl ?_
      refine ge_iconst (v := (-1 : Int32)) DX8_lookAtForms_79 rfl ?_
      refine ge_ixor DX8_lookAtForms_80 ?_
      refine ge_iand DX8_lookAtForms_81 ?_
      refine ge_iload_n 2 DX8_lookAtForms_82 rfl ?_
      refine ge_ishr DX8_lookAtForms_83 ?_
      refine ge_iconst (v := (1 : Int32)) DX8_lookAtForms_84 rfl ?_
      refine ge_iand DX8_lookAtForms_85 ?_
      refine ge_iload_n 3 DX8_lookAtForms_86 rfl ?_
      refine ge_ishl DX8_lookAtForms_87 ?_
      refine ge_ior DX8_lookAtForms_88 ?_
      refine ge_iast DX8_lookAtForms_89 is_289 al_289 (fun m14 => ?_)
      refine ge_iinc 3 (v := (x9 + (1 : Int32))) (ls' := [(2, .int (x9 + (1 : Int32))), (3, .ref (xad X (11 + 22 * ix x9))), (0, .ref (xad X 287)), (1, .int y8)]) DX8_lookAtForms_90 rfl rfl (by decide) rfl ?_
      refine ge_goto (tgt := 24) DX8_lookAtForms_93 (by decide) ?_
      refine ge_sub [2, 3, 0] rfl ?_
      exact ih m14 (x9 + (1 : Int32))
    · refine ge_sub [0, 1] rfl ?_
      exact hk96 m7
set_option maxHeartbeats 4000000 in
set_option maxRecDepth 100000 in
theorem lX8_lookAtForms_L2 (K : Kt) (X : Xt) {k102 : Mem → Option (Unit × Mem)}   (hk102 : ∀ (m3 : Mem), gX8_lookAtForms K X 0 0 102 [] [] m3 (k102 m3)) :
    ∀ (n : Nat) (m1 : Mem) (x2 : Int32), gX8_lookAtForms K X 0 0 2 [(0, .ref (xad X 287)), (1, .int x2)] [] m1 (fX8_lookAtForms_L2 k102  n m1 x2) := by
  intro n
  induction n with
  | zero => intro m1 x2; exact ge_none
  | succ n ih =>
    intro m1 x2
    show gX8_lookAtForms K X 0 0 2 [(0, .ref (xad X 287)), (1, .int x2)] [] m1 (fX8_lookAtForms_L2_b k102  (fX8_lookAtForms_L2 k102  n) m1 x2)
    delta fX8_lookAtForms_L2_b
    refine ge_iload_n 1 DX8_lookAtForms_2 rfl ?_
    refine ge_bipush (v := (12 : Int32)) DX8_lookAtForms_3 rfl ?_
    refine ge_icmp_ge (tgt := 102) DX8_lookAtForms_5 (by decide) ?_ ?_
    · refine ge_aload_n 0 DX8_lookAtForms_8 rfl ?_
      refine ge_getR (i := 288) DX8_lookAtForms_9 fl_X8_9 is_287 (by decide) rfl ?_
      refine ge_iload_n 1 DX8_lookAtForms_12 rfl ?_
      refine ge_iconst (v := (0 : Int32)) DX8_lookAtForms_13 rfl ?_
      refine ge_iast DX8_lookAtForms_14 is_288 al_288 (fun m5 => ?_)
      refine ge_aload_n 0 DX8_lookAtForms_15 rfl ?_
      refine ge_getR (i := 289) DX8_lookAtForms_16 fl_X8_15 is_287 (by decide) rfl ?_
      refine ge_iload_n 1 DX8_lookAtForms_19 rfl ?_
      refine ge_iconst (v := (0 : Int32)) DX8_lookAtForms_20 rfl ?_
      refine ge_iast DX8_lookAtForms_21 is_289 al_289 (fun m6 => ?_)
      refine ge_iconst (v := (0 : Int32)) DX8_lookAtForms_22 rfl ?_
      refine ge_istore_n (ls' := [(2, .int (0 : Int32)), (0, .ref (xad X 287)), (1, .int x2)]) DX8_lookAtForms_23 (by decide) rfl ?_
      refine ge_sub [1, 2, 0] rfl ?_
      refine lX8_lookAtForms_L24 K X x2 (fun m11 => ?_) 5000 m6 (0 : Int32)
      · refine ge_iinc 1 (v := (x2 + (1 : Int32))) (ls' := [(1, .int (x2 + (1 : Int32))), (0, .ref (xad X 287))]) DX8_lookAtForms_96 rfl rfl (by decide) rfl ?_
        refine ge_goto (tgt := 2) DX8_lookAtForms_99 (by decide) ?_
        refine ge_sub [1, 0] rfl ?_
        exact ih m11 (x2 + (1 : Int32))
    · refine ge_sub [] rfl ?_
      exact hk102 m1
set_option maxHeartbeats 4000000 in
set_option maxRecDepth 100000 in
theorem okX8_lookAtForms (l : Launch) (X : Xt) (m0 : Mem) : Ct l yX8_lookAtForms cX8_lookAtForms 4 none rmX8_lookAtForms ιV X [.ref (xad X 287)] m0 (fX8_lookAtForms m0) := by
  refine ct_of (own := RX8) (ls := [(0, .ref (xad X 287))]) (by decide) rfl rfl (Nat.le_of_ble_eq_true rfl) (fun K => ?_)
  show gX8_lookAtForms K X 0 0 0 [(0, .ref (xad X 287))] [] m0 (fX8_lookAtForms m0)
  delta fX8_lookAtForms
  refine ge_iconst (v := (0 : Int32)) DX8_lookAtForms_0 rfl ?_
  refine ge_istore_n (ls' := [(1, .int (0 : Int32)), (0, .ref (xad X 287))]) DX8_lookAtForms_1 (by decide) rfl ?_
  refine ge_sub [1, 0] rfl ?_
  refine lX8_lookAtForms_L2 K X  (fun m4 => ?_) 5000 m0 (0 : Int32)
  · exact ge_vret rfl DX8_lookAtForms_102
abbrev gX8_isUseful (K : Kt) (X : Xt) := GE (R := Int32) K rmX8_isUseful X cX8_isUseful 3 RX8 (some .boolean) (finM K X ιI 0 0)
set_option maxHeartbeats 4000000 in
set_option maxRecDepth 100000 in
theorem okX8_isUseful (l : Launch) (X : Xt) (m0 : Mem) (a1 : Int32) (a2 : Int32) : Ct l yX8_isUseful cX8_isUseful 3 (some .boolean) rmX8_isUseful ιI X [.ref (xad X 287), .int a1, .int a2] m0 (fX8_isUseful m0 a1 a2) := by
  refine ct_of (own := RX8) (ls := [(0, .ref (xad X 287)), (1, .int a1), (2, .int a2)]) (by decide) rfl rfl (Nat.le_of_ble_eq_true rfl) (fun K => ?_)
  show gX8_isUseful K X 0 0 0 [(0, .ref (xad X 287)), (1, .int a1), (2, .int a2)] [] m0 (fX8_isUseful m0 a1 a2)
  delta fX8_isUseful
  refine ge_iload_n 2 DX8_isUseful_0 rfl ?_
  refine ge_aload_n 0 DX8_isUseful_1 rfl ?_
  refine ge_getR (i := 288) DX8_isUseful_2 fl_X8_9 is_287 (by decide) rfl ?_
  refine ge_iload_n 1 DX8_isUseful_5 rfl ?_
  refine ge_iald DX8_isUseful_6 is_288 al_288 ?_
  refine ge_aload_n 0 DX8_isUseful_7 rfl ?_
  refine ge_getR (i := 289) DX8_isUseful_8 fl_X8_15 is_287 (by decide) rfl ?_
  refine ge_iload_n 1 DX8_isUseful_11 rfl ?_
  refine ge_iald DX8_isUseful_12 is_289 al_289 ?_
  refine ge_ior DX8_isUseful_13 ?_
  refine ge_iand DX8_isUseful_14 ?_
  refine ge_if_eq (tgt := 22) DX8_isUseful_15 (by decide) ?_ ?_
  · refine ge_iconst (v := (0 : Int32)) DX8_isUseful_22 rfl ?_
    exact ge_zretc rfl rfl DX8_isUseful_23
  · refine ge_iconst (v := (1 : Int32)) DX8_isUseful_18 rfl ?_
    refine ge_goto (tgt := 23) DX8_isUseful_19 (by decide) ?_
    exact ge_zretc rfl rfl DX8_isUseful_23
abbrev gJ6_bitCount_0f7a4 (K : Kt) (X : Xt) := GE (R := Int32) K rmJ6_bitCount_0f7a4 X cJ6_bitCount_0f7a4 1 RJ6 (some .int) (finM K X ιI 0 0)
set_option maxHeartbeats 4000000 in
set_option maxRecDepth 100000 in
theorem okJ6_bitCount_0f7a4 (l : Launch) (X : Xt) (m0 : Mem) (a0 : Int32) : Ct l yJ6_bitCount_0f7a4 cJ6_bitCount_0f7a4 1 (some .int) rmJ6_bitCount_0f7a4 ιI X [.int a0] m0 (fJ6_bitCount_0f7a4 m0 a0) := by
  refine ct_of (own := RJ6) (ls := [(0, .int a0)]) (by decide) rfl rfl (Nat.le_of_ble_eq_true rfl) (fun K => ?_)
  show gJ6_bitCount_0f7a4 K X 0 0 0 [(0, .int a0)] [] m0 (fJ6_bitCount_0f7a4 m0 a0)
  delta fJ6_bitCount_0f7a4
  refine ge_iload_n 0 DJ6_bitCount_0f7a4_0 rfl ?_
  refine ge_iload_n 0 DJ6_bitCount_0f7a4_1 rfl ?_
  refine ge_iconst (v := (1 : Int32)) DJ6_bitCount_0f7a4_2 rfl ?_
  refine ge_iushr DJ6_bitCount_0f7a4_3 ?_
  refine ge_ldcw (v := (1431655765 : Int32)) kw_J6_265 DJ6_bitCount_0f7a4_4 ?_
  refine ge_iand DJ6_bitCount_0f7a4_7 ?_
  refine ge_isub DJ6_bitCount_0f7a4_8 ?_
  refine ge_topi (fun x1 => ?_)
  refine ge_istore_n (ls' := [(0, .int x1)]) DJ6_bitCount_0f7a4_9 (by decide) rfl ?_
  refine ge_iload_n 0 DJ6_bitCount_0f7a4_10 rfl ?_
  refine ge_ldcw (v := (858993459 : Int32)) kw_J6_266 DJ6_bitCount_0f7a4_11 ?_
  refine ge_iand DJ6_bitCount_0f7a4_14 ?_
  refine ge_iload_n 0 DJ6_bitCount_0f7a4_15 rfl ?_
  refine ge_iconst (v := (2 : Int32)) DJ6_bitCount_0f7a4_16 rfl ?_
  refine ge_iushr DJ6_bitCount_0f7a4_17 ?_
  refine ge_ldcw (v := (858993459 : Int32)) kw_J6_266 DJ6_bitCount_0f7a4_18 ?_
  refine ge_iand DJ6_bitCount_0f7a4_21 ?_
  refine ge_iadd DJ6_bitCount_0f7a4_22 ?_
  refine ge_topi (fun x2 => ?_)
  refine ge_istore_n (ls' := [(0, .int x2)]) DJ6_bitCount_0f7a4_23 (by decide) rfl ?_
  refine ge_iload_n 0 DJ6_bitCount_0f7a4_24 rfl ?_
  refine ge_iload_n 0 DJ6_bitCount_0f7a4_25 rfl ?_
  refine ge_iconst (v := (4 : Int32)) DJ6_bitCount_0f7a4_26 rfl ?_
  refine ge_iushr DJ6_bitCount_0f7a4_27 ?_
  refine ge_iadd DJ6_bitCount_0f7a4_28 ?_
  refine ge_ldcw (v := (252645135 : Int32)) kw_J6_267 DJ6_bitCount_0f7a4_29 ?_
  refine ge_iand DJ6_bitCount_0f7a4_32 ?_
  refine ge_topi (fun x3 => ?_)
  refine ge_istore_n (ls' := [(0, .int x3)]) DJ6_bitCount_0f7a4_33 (by decide) rfl ?_
  refine ge_iload_n 0 DJ6_bitCount_0f7a4_34 rfl ?_
  refine ge_iload_n 0 DJ6_bitCount_0f7a4_35 rfl ?_
  refine ge_bipush (v := (8 : Int32)) DJ6_bitCount_0f7a4_36 rfl ?_
  refine ge_iushr DJ6_bitCount_0f7a4_38 ?_
  refine ge_iadd DJ6_bitCount_0f7a4_39 ?_
  refine ge_topi (fun x4 => ?_)
  refine ge_istore_n (ls' := [(0, .int x4)]) DJ6_bitCount_0f7a4_40 (by decide) rfl ?_
  refine ge_iload_n 0 DJ6_bitCount_0f7a4_41 rfl ?_
  refine ge_iload_n 0 DJ6_bitCount_0f7a4_42 rfl ?_
  refine ge_bipush (v := (16 : Int32)) DJ6_bitCount_0f7a4_43 rfl ?_
  refine ge_iushr DJ6_bitCount_0f7a4_45 ?_
  refine ge_iadd DJ6_bitCount_0f7a4_46 ?_
  refine ge_topi (fun x5 => ?_)
  refine ge_istore_n (ls' := [(0, .int x5)]) DJ6_bitCount_0f7a4_47 (by decide) rfl ?_
  refine ge_iload_n 0 DJ6_bitCount_0f7a4_48 rfl ?_
  refine ge_bipush (v := (63 : Int32)) DJ6_bitCount_0f7a4_49 rfl ?_
  refine ge_iand DJ6_bitCount_0f7a4_51 ?_
  exact ge_iret rfl DJ6_bitCount_0f7a4_52
