abbrev gX0_at (K : Kt) (X : Xt) := GE (R := Int32) K rmX0_at X cX0_at 2 RX0 (some .int) (finM K X ιI 0 0)
set_option maxHeartbeats 4000000 in
set_option maxRecDepth 100000 in
theorem okX0_at (l : Launch) (X : Xt) (k0 : Nat) (hk0 : Is 0 k0) (m0 : Mem) (a1 : Int32) : Ct l yX0_at cX0_at 2 (some .int) rmX0_at ιI X [.ref (xad X k0), .int a1] m0 (fX0_at k0 m0 a1) := by
  refine ct_of (own := RX0) (ls := [(0, .ref (xad X k0)), (1, .int a1)]) (by decide) rfl rfl (Nat.le_of_ble_eq_true rfl) (fun K => ?_)
  show gX0_at K X 0 0 0 [(0, .ref (xad X k0)), (1, .int a1)] [] m0 (fX0_at k0 m0 a1)
  delta fX0_at
  refine ge_iload_n 1 DX0_at_0 rfl ?_
  refine ge_if_lt (tgt := 21) DX0_at_1 (by decide) ?_ ?_
  · refine ge_iconst (v := (-1 : Int32)) DX0_at_21 rfl ?_
    exact ge_iret rfl DX0_at_22
  · refine ge_iload_n 1 DX0_at_4 rfl ?_
    refine ge_aload_n 0 DX0_at_5 rfl ?_
    refine ge_getI DX0_at_6 fl_X0_9 hk0 (by decide) rfl ?_
    refine ge_icmp_ge (tgt := 21) DX0_at_9 (by decide) ?_ ?_
    · refine ge_aload_n 0 DX0_at_12 rfl ?_
      refine ge_getR (i := (k0 + 1)) DX0_at_13 fl_X0_15 hk0 (by decide) rfl ?_
      refine ge_iload_n 1 DX0_at_16 rfl ?_
      refine ge_iald DX0_at_17 (is0_0 hk0) rfl ?_
      refine ge_goto (tgt := 22) DX0_at_18 (by decide) ?_
      exact ge_iret rfl DX0_at_22
    · refine ge_iconst (v := (-1 : Int32)) DX0_at_21 rfl ?_
      exact ge_iret rfl DX0_at_22
abbrev gX0_add (K : Kt) (X : Xt) := GE (R := Unit) K rmX0_add X cX0_add 2 RX0 none (finM K X ιV 0 0)
set_option maxHeartbeats 4000000 in
set_option maxRecDepth 100000 in
theorem okX0_add (l : Launch) (X : Xt) (k0 : Nat) (hk0 : Is 0 k0) (m0 : Mem) (a1 : Int32) : Ct l yX0_add cX0_add 2 none rmX0_add ιV X [.ref (xad X k0), .int a1] m0 (fX0_add k0 m0 a1) := by
  refine ct_of (own := RX0) (ls := [(0, .ref (xad X k0)), (1, .int a1)]) (by decide) rfl rfl (Nat.le_of_ble_eq_true rfl) (fun K => ?_)
  show gX0_add K X 0 0 0 [(0, .ref (xad X k0)), (1, .int a1)] [] m0 (fX0_add k0 m0 a1)
  delta fX0_add
  refine ge_aload_n 0 DX0_add_0 rfl ?_
  refine ge_getI DX0_add_1 fl_X0_9 hk0 (by decide) rfl ?_
  refine ge_aload_n 0 DX0_add_4 rfl ?_
  refine ge_getR (i := (k0 + 1)) DX0_add_5 fl_X0_15 hk0 (by decide) rfl ?_
  refine ge_alen DX0_add_8 (is0_0 hk0) rfl ?_
  refine ge_icmp_ge (tgt := 32) DX0_add_9 (by decide) ?_ ?_
  · refine ge_aload_n 0 DX0_add_12 rfl ?_
    refine ge_getR (i := (k0 + 1)) DX0_add_13 fl_X0_15 hk0 (by decide) rfl ?_
    refine ge_aload_n 0 DX0_add_16 rfl ?_
    refine ge_getI DX0_add_17 fl_X0_9 hk0 (by decide) rfl ?_
    refine ge_iload_n 1 DX0_add_20 rfl ?_
    refine ge_iast DX0_add_21 (is0_0 hk0) rfl (fun m1 => ?_)
    refine ge_aload_n 0 DX0_add_22 rfl ?_
    refine ge_dup DX0_add_23 rfl ?_
    refine ge_getI DX0_add_24 fl_X0_9 hk0 (by decide) rfl ?_
    refine ge_iconst (v := (1 : Int32)) DX0_add_27 rfl ?_
    refine ge_iadd DX0_add_28 ?_
    refine ge_put DX0_add_29 fp_X0_9 hk0 (by decide) rfl (fun m2 => ?_)
    exact ge_vret rfl DX0_add_32
  · exact ge_vret rfl DX0_add_32
abbrev gX0_addName (K : Kt) (X : Xt) := GE (R := Unit) K rmX0_addName X cX0_addName 4 RX0 none (finM K X ιV 0 0)
set_option maxHeartbeats 4000000 in
set_option maxRecDepth 100000 in
theorem lX0_addName_L3 (K : Kt) (X : Xt) {k30 : Mem → Option (Unit × Mem)} (q2 : Nat) (y3 : Int32) (hq2 : Is 0 q2) (hk30 : ∀ (m5 : Mem), gX0_addName K X 0 0 30 [] [] m5 (k30 m5)) :
    ∀ (n : Nat) (m1 : Mem) (x4 : Int32), gX0_addName K X 0 0 3 [(0, .ref (xad X q2)), (1, .int y3), (2, .int x4)] [] m1 (fX0_addName_L3 k30 q2 y3 n m1 x4) := by
  intro n
  induction n with
  | zero => intro m1 x4; exact ge_none
  | succ n ih =>
    intro m1 x4
    show gX0_addName K X 0 0 3 [(0, .ref (xad X q2)), (1, .int y3), (2, .int x4)] [] m1 (fX0_addName_L3_b k30 q2 y3 (fX0_addName_L3 k30 q2 y3 n) m1 x4)
    delta fX0_addName_L3_b
    refine ge_iload_n 2 DX0_addName_3 rfl ?_
    refine ge_if_lt (tgt := 30) DX0_addName_4 (by decide) ?_ ?_
    · refine ge_sub [] rfl ?_
      exact hk30 m1
    · refine ge_iload_n 1 DX0_addName_7 rfl ?_
      refine ge_iload_n 2 DX0_addName_8 rfl ?_
      refine ge_ishr DX0_addName_9 ?_
      refine ge_sipush (v := (255 : Int32)) DX0_addName_10 rfl ?_
      refine ge_iand DX0_addName_13 ?_
      refine ge_topi (fun x7 => ?_)
      refine ge_istore_n (ls' := [(3, .int x7), (0, .ref (xad X q2)), (1, .int y3), (2, .int x4)]) DX0_addName_14 (by decide) rfl ?_
      refine ge_iload_n 0 DX0_addName_15 rfl ?_
      refine ge_jn (P := fun k => ∀ (m8 : Mem), gX0_addName K X 0 0 24 [(0, .ref (xad X q2)), (1, .int y3), (2, .int x4)] [] m8 (k m8)) (fun m8 => ?_) (fun j24 hj24 => ?_)
      · refine ge_iinc 2 (v := (x4 + (-8 : Int32))) (ls' := [(2, .int (x4 + (-8 : Int32))), (0, .ref (xad X q2)), (1, .int y3)]) DX0_addName_24 rfl rfl (by decide) rfl ?_
        refine ge_goto (tgt := 3) DX0_addName_27 (by decide) ?_
        refine ge_sub [1, 2, 0] rfl ?_
        exact ih m8 (x4 + (-8 : Int32))
      refine ge_if_eq (tgt := 24) DX0_addName_16 (by decide) ?_ ?_
      · refine ge_sub [1, 2, 3] rfl ?_
        exact hj24 m1
      · refine ge_aload_n 1 DX0_addName_19 rfl ?_
        refine ge_iload_n 0 DX0_addName_20 rfl ?_
        refine ge_callVv0 (st := []) cm_X0_19 DX0_addName_21 hq2 rfl (okX0_add (kl K) X q2 hq2 m1 x7) rfl rfl (Nat.le_of_ble_eq_true rfl) (by decide) ⟨rfl, rfl⟩ ⟨Nat.zero_le _, Nat.zero_le _⟩ (fun m9 => ?_)
        refine ge_sub [1, 2, 3] rfl ?_
        exact hj24 m9
set_option maxHeartbeats 4000000 in
set_option maxRecDepth 100000 in
theorem okX0_addName (l : Launch) (X : Xt) (k0 : Nat) (hk0 : Is 0 k0) (m0 : Mem) (a1 : Int32) : Ct l yX0_addName cX0_addName 4 none rmX0_addName ιV X [.ref (xad X k0), .int a1] m0 (fX0_addName k0 m0 a1) := by
  refine ct_of (own := RX0) (ls := [(0, .ref (xad X k0)), (1, .int a1)]) (by decide) rfl rfl (Nat.le_of_ble_eq_true rfl) (fun K => ?_)
  show gX0_addName K X 0 0 0 [(0, .ref (xad X k0)), (1, .int a1)] [] m0 (fX0_addName k0 m0 a1)
  delta fX0_addName
  refine ge_bipush (v := (16 : Int32)) DX0_addName_0 rfl ?_
  refine ge_istore_n (ls' := [(2, .int (16 : Int32)), (0, .ref (xad X k0)), (1, .int a1)]) DX0_addName_2 (by decide) rfl ?_
  refine ge_sub [1, 2, 0] rfl ?_
  refine lX0_addName_L3 K X k0 a1 hk0 (fun m6 => ?_) 5000 m0 (16 : Int32)
  · exact ge_vret rfl DX0_addName_30
abbrev gX0_addNumber (K : Kt) (X : Xt) := GE (R := Unit) K rmX0_addNumber X cX0_addNumber 4 RX0 none (finM K X ιV 0 0)
set_option maxHeartbeats 4000000 in
set_option maxRecDepth 100000 in
theorem lX0_addNumber_L19 (K : Kt) (X : Xt) {k54 : Mem → Option (Unit × Mem)} (q4 : Nat) (y5 : Int32) (hq4 : Is 0 q4) (hk54 : ∀ (m7 : Mem), gX0_addNumber K X 0 0 54 [] [] m7 (k54 m7)) :
    ∀ (n : Nat) (m3 : Mem) (x6 : Int32), gX0_addNumber K X 0 0 19 [(0, .ref (xad X q4)), (2, .int y5), (3, .int x6)] [] m3 (fX0_addNumber_L19 k54 q4 y5 n m3 x6) := by
  intro n
  induction n with
  | zero => intro m3 x6; exact ge_none
  | succ n ih =>
    intro m3 x6
    show gX0_addNumber K X 0 0 19 [(0, .ref (xad X q4)), (2, .int y5), (3, .int x6)] [] m3 (fX0_addNumber_L19_b k54 q4 y5 (fX0_addNumber_L19 k54 q4 y5 n) m3 x6)
    delta fX0_addNumber_L19_b
    refine ge_iload_n 2 DX0_addNumber_19 rfl ?_
    refine ge_if_le (tgt := 54) DX0_addNumber_20 (by decide) ?_ ?_
    · refine ge_iload_n 1 DX0_addNumber_23 rfl ?_
      refine ge_iload_n 2 DX0_addNumber_24 rfl ?_
      refine ge_jn (P := fun k => ∀ (m9 : Mem), gX0_addNumber K X 0 0 46 [(0, .ref (xad X q4)), (2, .int y5), (3, .int x6)] [] m9 (k m9)) (fun m9 => ?_) (fun j46 hj46 => ?_)
      · refine ge_iload_n 2 DX0_addNumber_46 rfl ?_
        refine ge_bipush (v := (10 : Int32)) DX0_addNumber_47 rfl ?_
        refine ge_idivc DX0_addNumber_49 rfl ?_
        refine ge_topi (fun x10 => ?_)
        refine ge_istore_n (ls' := [(3, .int x10), (0, .ref (xad X q4)), (2, .int y5)]) DX0_addNumber_50 (by decide) rfl ?_
        refine ge_goto (tgt := 19) DX0_addNumber_51 (by decide) ?_
        refine ge_sub [1, 2, 0] rfl ?_
        exact ih m9 x10
      refine ge_jn (P := fun k => gX0_addNumber K X 0 0 33 [(0, .ref (xad X q4)), (2, .int y5), (3, .int x6)] [] m3 k) ?_ (fun j33 hj33 => ?_)
      · refine ge_aload_n 0 DX0_addNumber_33 rfl ?_
        refine ge_bipush (v := (48 : Int32)) DX0_addNumber_34 rfl ?_
        refine ge_iload_n 1 DX0_addNumber_36 rfl ?_
        refine ge_iload_n 2 DX0_addNumber_37 rfl ?_
        refine ge_idiv DX0_addNumber_38 ?_
        refine ge_bipush (v := (10 : Int32)) DX0_addNumber_39 rfl ?_
        refine ge_iremc DX0_addNumber_41 rfl ?_
        refine ge_iadd DX0_addNumber_42 ?_
        refine ge_callVv0 (st := []) cm_X0_19 DX0_addNumber_43 hq4 rfl (okX0_add (kl K) X q4 hq4 m3 ((48 : Int32) + ((y5 / x6) % (10 : Int32)))) rfl rfl (Nat.le_of_ble_eq_true rfl) (by decide) ⟨rfl, rfl⟩ ⟨Nat.zero_le _, Nat.zero_le _⟩ (fun m11 => ?_)
        exact hj46 m11
      refine ge_icmp_ge (tgt := 33) DX0_addNumber_25 (by decide) ?_ ?_
      · refine ge_iload_n 2 DX0_addNumber_28 rfl ?_
        refine ge_iconst (v := (1 : Int32)) DX0_addNumber_29 rfl ?_
        refine ge_icmp_ne (tgt := 46) DX0_addNumber_30 (by decide) ?_ ?_
        · exact hj33
        · exact hj46 m3
      · exact hj33
    · refine ge_sub [] rfl ?_
      exact hk54 m3
set_option maxHeartbeats 4000000 in
set_option maxRecDepth 100000 in
theorem okX0_addNumber (l : Launch) (X : Xt) (k0 : Nat) (hk0 : Is 0 k0) (m0 : Mem) (a1 : Int32) : Ct l yX0_addNumber cX0_addNumber 4 none rmX0_addNumber ιV X [.ref (xad X k0), .int a1] m0 (fX0_addNumber k0 m0 a1) := by
  refine ct_of (own := RX0) (ls := [(0, .ref (xad X k0)), (1, .int a1)]) (by decide) rfl rfl (Nat.le_of_ble_eq_true rfl) (fun K => ?_)
  show gX0_addNumber K X 0 0 0 [(0, .ref (xad X k0)), (1, .int a1)] [] m0 (fX0_addNumber k0 m0 a1)
  delta fX0_addNumber
  refine ge_iload_n 1 DX0_addNumber_0 rfl ?_
  refine ge_istore_n (ls' := [(2, .int a1), (0, .ref (xad X k0)), (1, .int a1)]) DX0_addNumber_1 (by decide) rfl ?_
  refine ge_iload_n 2 DX0_addNumber_2 rfl ?_
  refine ge_jn (P := fun k => ∀ (m1 : Mem) (x2 : Int32), gX0_addNumber K X 0 0 15 [(0, .ref (xad X k0)), (2, .int x2)] [] m1 (k m1 x2)) (fun m1 x2 => ?_) (fun j15 hj15 => ?_)
  · refine ge_sipush (v := (1000 : Int32)) DX0_addNumber_15 rfl ?_
    refine ge_istore_n (ls' := [(3, .int (1000 : Int32)), (0, .ref (xad X k0)), (2, .int x2)]) DX0_addNumber_18 (by decide) rfl ?_
    refine ge_sub [1, 2, 0] rfl ?_
    refine lX0_addNumber_L19 K X k0 x2 hk0 (fun m8 => ?_) 5000 m1 (1000 : Int32)
    · exact ge_vret rfl DX0_addNumber_54
  refine ge_if_ge (tgt := 15) DX0_addNumber_3 (by decide) ?_ ?_
  · refine ge_aload_n 1 DX0_addNumber_6 rfl ?_
    refine ge_bipush (v := (45 : Int32)) DX0_addNumber_7 rfl ?_
    refine ge_callVv0 (st := []) cm_X0_19 DX0_addNumber_9 hk0 rfl (okX0_add (kl K) X k0 hk0 m0 (45 : Int32)) rfl rfl (Nat.le_of_ble_eq_true rfl) (by decide) ⟨rfl, rfl⟩ ⟨Nat.zero_le _, Nat.zero_le _⟩ (fun m12 => ?_)
    refine ge_iload_n 2 DX0_addNumber_12 rfl ?_
    refine ge_ineg DX0_addNumber_13 ?_
    refine ge_topi (fun x13 => ?_)
    refine ge_istore_n (ls' := [(2, .int x13), (0, .ref (xad X k0)), (1, .int a1)]) DX0_addNumber_14 (by decide) rfl ?_
    refine ge_sub [1, 0] rfl ?_
    exact hj15 m12 x13
  · refine ge_sub [1, 0] rfl ?_
    exact hj15 m0 a1
abbrev gX1_become (K : Kt) (X : Xt) := GE (R := Unit) K rmX1_become X cX1_become 2 RX1 none (finM K X ιV 0 0)
set_option maxHeartbeats 4000000 in
set_option maxRecDepth 100000 in
theorem okX1_become (l : Launch) (X : Xt) (k0 : Nat) (hk0 : Is 1 k0) (m0 : Mem) (a1 : Nat) (ha1 : Is 1 a1) : Ct l yX1_become cX1_become 2 none rmX1_become ιV X [.ref (xad X k0), .ref (xad X a1)] m0 (fX1_become k0 m0 a1) := by
  refine ct_of (own := RX1) (ls := [(0, .ref (xad X k0)), (1, .ref (xad X a1))]) (by decide) rfl rfl (Nat.le_of_ble_eq_true rfl) (fun K => ?_)
  show gX1_become K X 0 0 0 [(0, .ref (xad X k0)), (1, .ref (xad X a1))] [] m0 (fX1_become k0 m0 a1)
  delta fX1_become
  refine ge_aload_n 1 DX1_become_0 rfl ?_
  refine ge_getR (i := (a1 + 1)) DX1_become_1 fl_X1_9 ha1 (by decide) rfl ?_
  refine ge_iconst (v := (0 : Int32)) DX1_become_4 rfl ?_
  refine ge_aload_n 0 DX1_become_5 rfl ?_
  refine ge_getR (i := (k0 + 1)) DX1_become_6 fl_X1_9 hk0 (by decide) rfl ?_
  refine ge_iconst (v := (0 : Int32)) DX1_become_9 rfl ?_
  refine ge_bipush (v := (32 : Int32)) DX1_become_10 rfl ?_
  refine ge_acopy DX1_become_12 cp_X1_25 (is1_0 ha1) (is1_0 hk0) (al1_0 ha1) (al1_0 hk0) (by decide) (Nat.le_of_ble_eq_true rfl) (fun m1 => ?_)
  refine ge_aload_n 1 DX1_become_15 rfl ?_
  refine ge_getR (i := (a1 + 2)) DX1_become_16 fl_X1_15 ha1 (by decide) rfl ?_
  refine ge_iconst (v := (0 : Int32)) DX1_become_19 rfl ?_
  refine ge_aload_n 0 DX1_become_20 rfl ?_
  refine ge_getR (i := (k0 + 2)) DX1_become_21 fl_X1_15 hk0 (by decide) rfl ?_
  refine ge_iconst (v := (0 : Int32)) DX1_become_24 rfl ?_
  refine ge_bipush (v := (8 : Int32)) DX1_become_25 rfl ?_
  refine ge_acopy DX1_become_27 cp_X1_25 (is1_1 ha1) (is1_1 hk0) (al1_1 ha1) (al1_1 hk0) (by decide) (Nat.le_of_ble_eq_true rfl) (fun m2 => ?_)
  refine ge_aload_n 1 DX1_become_30 rfl ?_
  refine ge_getR (i := (a1 + 3)) DX1_become_31 fl_X1_18 ha1 (by decide) rfl ?_
  refine ge_iconst (v := (0 : Int32)) DX1_become_34 rfl ?_
  refine ge_aload_n 0 DX1_become_35 rfl ?_
  refine ge_getR (i := (k0 + 3)) DX1_become_36 fl_X1_18 hk0 (by decide) rfl ?_
  refine ge_iconst (v := (0 : Int32)) DX1_become_39 rfl ?_
  refine ge_bipush (v := (32 : Int32)) DX1_become_40 rfl ?_
  refine ge_acopy DX1_become_42 cp_X1_25 (is1_2 ha1) (is1_2 hk0) (al1_2 ha1) (al1_2 hk0) (by decide) (Nat.le_of_ble_eq_true rfl) (fun m3 => ?_)
  refine ge_aload_n 0 DX1_become_45 rfl ?_
  refine ge_aload_n 1 DX1_become_46 rfl ?_
  refine ge_getI DX1_become_47 fl_X1_21 ha1 (by decide) rfl ?_
  refine ge_put DX1_become_50 fp_X1_21 hk0 (by decide) rfl (fun m4 => ?_)
  exact ge_vret rfl DX1_become_53
abbrev gX1_hasMet (K : Kt) (X : Xt) := GE (R := Int32) K rmX1_hasMet X cX1_hasMet 3 RX1 (some .boolean) (finM K X ιI 0 0)
set_option maxHeartbeats 4000000 in
set_option maxRecDepth 100000 in
theorem lX1_hasMet_L2 (K : Kt) (X : Xt) {k20 : Option (Int32 × Mem)} {k28 : Option (Int32 × Mem)} (m1 : Mem) (q2 : Nat) (y3 : Int32) (hq2 : Is 1 q2) (hk20 : gX1_hasMet K X 0 0 20 [] [] m1 (k20)) (hk28 : gX1_hasMet K X 0 0 28 [] [] m1 (k28)) :
    ∀ (n : Nat) (x4 : Int32), gX1_hasMet K X 0 0 2 [(0, .ref (xad X q2)), (1, .int y3), (2, .int x4)] [] m1 (fX1_hasMet_L2 k20 k28 m1 q2 y3 n x4) := by
  intro n
  induction n with
  | zero => intro x4; exact ge_none
  | succ n ih =>
    intro x4
    show gX1_hasMet K X 0 0 2 [(0, .ref (xad X q2)), (1, .int y3), (2, .int x4)] [] m1 (fX1_hasMet_L2_b k20 k28 m1 q2 y3 (fX1_hasMet_L2 k20 k28 m1 q2 y3 n) x4)
    delta fX1_hasMet_L2_b
    refine ge_iload_n 2 DX1_hasMet_2 rfl ?_
    refine ge_aload_n 0 DX1_hasMet_3 rfl ?_
    refine ge_getI DX1_hasMet_4 fl_X1_21 hq2 (by decide) rfl ?_
    refine ge_icmp_ge (tgt := 28) DX1_hasMet_7 (by decide) ?_ ?_
    · refine ge_aload_n 0 DX1_hasMet_10 rfl ?_
      refine ge_getR (i := (q2 + 3)) DX1_hasMet_11 fl_X1_18 hq2 (by decide) rfl ?_
      refine ge_iload_n 2 DX1_hasMet_14 rfl ?_
      refine ge_iald DX1_hasMet_15 (is1_2 hq2) (al1_2 hq2) ?_
      refine ge_iload_n 1 DX1_hasMet_16 rfl ?_
      refine ge_icmp_ne (tgt := 22) DX1_hasMet_17 (by decide) ?_ ?_
      · refine ge_sub [] rfl ?_
        exact hk20
      · refine ge_iinc 2 (v := (x4 + (1 : Int32))) (ls' := [(2, .int (x4 + (1 : Int32))), (0, .ref (xad X q2)), (1, .int y3)]) DX1_hasMet_22 rfl rfl (by decide) rfl ?_
        refine ge_goto (tgt := 2) DX1_hasMet_25 (by decide) ?_
        refine ge_sub [1, 2, 0] rfl ?_
        exact ih (x4 + (1 : Int32))
    · refine ge_sub [] rfl ?_
      exact hk28
set_option maxHeartbeats 4000000 in
set_option maxRecDepth 100000 in
theorem okX1_hasMet (l : Launch) (X : Xt) (k0 : Nat) (hk0 : Is 1 k0) (m0 : Mem) (a1 : Int32) : Ct l yX1_hasMet cX1_hasMet 3 (some .boolean) rmX1_hasMet ιI X [.ref (xad X k0), .int a1] m0 (fX1_hasMet k0 m0 a1) := by
  refine ct_of (own := RX1) (ls := [(0, .ref (xad X k0)), (1, .int a1)]) (by decide) rfl rfl (Nat.le_of_ble_eq_true rfl) (fun K => ?_)
  show gX1_hasMet K X 0 0 0 [(0, .ref (xad X k0)), (1, .int a1)] [] m0 (fX1_hasMet k0 m0 a1)
  delta fX1_hasMet
  refine ge_iconst (v := (0 : Int32)) DX1_hasMet_0 rfl ?_
  refine ge_istore_n (ls' := [(2, .int (0 : Int32)), (0, .ref (xad X k0)), (1, .int a1)]) DX1_hasMet_1 (by decide) rfl ?_
  refine ge_sub [1, 2, 0] rfl ?_
  refine lX1_hasMet_L2 K X m0 k0 a1 hk0 ?_ ?_ 5000 (0 : Int32)
  · refine ge_iconst (v := (1 : Int32)) DX1_hasMet_20 rfl ?_
    exact ge_zretc rfl rfl DX1_hasMet_21
  · refine ge_iconst (v := (0 : Int32)) DX1_hasMet_28 rfl ?_
    exact ge_zretc rfl rfl DX1_hasMet_29
abbrev gX1_meet (K : Kt) (X : Xt) := GE (R := Unit) K rmX1_meet X cX1_meet 2 RX1 none (finM K X ιV 0 0)
set_option maxHeartbeats 4000000 in
set_option maxRecDepth 100000 in
theorem okX1_meet (l : Launch) (X : Xt) (k0 : Nat) (hk0 : Is 1 k0) (m0 : Mem) (a1 : Int32) : Ct l yX1_meet cX1_meet 2 none rmX1_meet ιV X [.ref (xad X k0), .int a1] m0 (fX1_meet k0 m0 a1) := by
  refine ct_of (own := RX1) (ls := [(0, .ref (xad X k0)), (1, .int a1)]) (by decide) rfl rfl (Nat.le_of_ble_eq_true rfl) (fun K => ?_)
  show gX1_meet K X 0 0 0 [(0, .ref (xad X k0)), (1, .int a1)] [] m0 (fX1_meet k0 m0 a1)
  delta fX1_meet
  refine ge_aload_n 0 DX1_meet_0 rfl ?_
  refine ge_iload_n 1 DX1_meet_1 rfl ?_
  refine ge_callVi0 (st := []) cm_X1_31 DX1_meet_2 hk0 rfl (okX1_hasMet (kl K) X k0 hk0 m0 a1) rfl rfl (Nat.le_of_ble_eq_true rfl) (by decide) ⟨rfl, rfl⟩ ⟨Nat.zero_le _, Nat.zero_le _⟩ (fun r2 m1 => ?_)
  refine ge_if_eq (tgt := 9) DX1_meet_5 (by decide) ?_ ?_
  · refine ge_aload_n 0 DX1_meet_9 rfl ?_
    refine ge_getI DX1_meet_10 fl_X1_21 hk0 (by decide) rfl ?_
    refine ge_bipush (v := (32 : Int32)) DX1_meet_13 rfl ?_
    refine ge_jn (P := fun k => ∀ (m3 : Mem), gX1_meet K X 0 0 45 [(0, .ref (xad X k0)), (1, .int a1)] [] m3 (k m3)) (fun m3 => ?_) (fun j45 hj45 => ?_)
    · refine ge_aload_n 0 DX1_meet_45 rfl ?_
      refine ge_getR (i := (k0 + 3)) DX1_meet_46 fl_X1_18 hk0 (by decide) rfl ?_
      refine ge_aload_n 0 DX1_meet_49 rfl ?_
      refine ge_getI DX1_meet_50 fl_X1_21 hk0 (by decide) rfl ?_
      refine ge_iload_n 1 DX1_meet_53 rfl ?_
      refine ge_iast DX1_meet_54 (is1_2 hk0) (al1_2 hk0) (fun m4 => ?_)
      refine ge_aload_n 0 DX1_meet_55 rfl ?_
      refine ge_dup DX1_meet_56 rfl ?_
      refine ge_getI DX1_meet_57 fl_X1_21 hk0 (by decide) rfl ?_
      refine ge_iconst (v := (1 : Int32)) DX1_meet_60 rfl ?_
      refine ge_iadd DX1_meet_61 ?_
      refine ge_put DX1_meet_62 fp_X1_21 hk0 (by decide) rfl (fun m5 => ?_)
      exact ge_vret rfl DX1_meet_65
    refine ge_icmp_ne (tgt := 45) DX1_meet_15 (by decide) ?_ ?_
    · refine ge_aload_n 0 DX1_meet_18 rfl ?_
      refine ge_dup DX1_meet_19 rfl ?_
      refine ge_getI DX1_meet_20 fl_X1_21 hk0 (by decide) rfl ?_
      refine ge_iconst (v := (1 : Int32)) DX1_meet_23 rfl ?_
      refine ge_isub DX1_meet_24 ?_
      refine ge_put DX1_meet_25 fp_X1_21 hk0 (by decide) rfl (fun m6 => ?_)
      refine ge_aload_n 0 DX1_meet_28 rfl ?_
      refine ge_getR (i := (k0 + 3)) DX1_meet_29 fl_X1_18 hk0 (by decide) rfl ?_
      refine ge_iconst (v := (1 : Int32)) DX1_meet_32 rfl ?_
      refine ge_aload_n 0 DX1_meet_33 rfl ?_
      refine ge_getR (i := (k0 + 3)) DX1_meet_34 fl_X1_18 hk0 (by decide) rfl ?_
      refine ge_iconst (v := (0 : Int32)) DX1_meet_37 rfl ?_
      refine ge_aload_n 0 DX1_meet_38 rfl ?_
      refine ge_getI DX1_meet_39 fl_X1_21 hk0 (by decide) rfl ?_
      refine ge_acopy DX1_meet_42 cp_X1_25 (is1_2 hk0) (is1_2 hk0) (al1_2 hk0) (al1_2 hk0) (by decide) (Nat.le_of_ble_eq_true rfl) (fun m7 => ?_)
      exact hj45 m7
    · exact hj45 m1
  · exact ge_vret rfl DX1_meet_8
abbrev gX2_clear (K : Kt) (X : Xt) := GE (R := Unit) K rmX2_clear X cX2_clear 1 RX2 none (finM K X ιV 0 0)
set_option maxHeartbeats 4000000 in
set_option maxRecDepth 100000 in
theorem okX2_clear (l : Launch) (X : Xt) (k0 : Nat) (hk0 : Is 2 k0) (m0 : Mem) : Ct l yX2_clear cX2_clear 1 none rmX2_clear ιV X [.ref (xad X k0)] m0 (fX2_clear k0 m0) := by
  refine ct_of (own := RX2) (ls := [(0, .ref (xad X k0))]) (by decide) rfl rfl (Nat.le_of_ble_eq_true rfl) (fun K => ?_)
  show gX2_clear K X 0 0 0 [(0, .ref (xad X k0))] [] m0 (fX2_clear k0 m0)
  delta fX2_clear
  refine ge_aload_n 0 DX2_clear_0 rfl ?_
  refine ge_iconst (v := (0 : Int32)) DX2_clear_1 rfl ?_
  refine ge_put DX2_clear_2 fp_X2_15 hk0 (by decide) rfl (fun m1 => ?_)
  refine ge_aload_n 0 DX2_clear_5 rfl ?_
  refine ge_iconst (v := (0 : Int32)) DX2_clear_6 rfl ?_
  refine ge_put DX2_clear_7 fp_X2_19 hk0 (by decide) rfl (fun m2 => ?_)
  exact ge_vret rfl DX2_clear_10
abbrev gX2_addBit (K : Kt) (X : Xt) := GE (R := Int32) K rmX2_addBit X cX2_addBit 2 RX2 (some .boolean) (finM K X ιI 0 0)
set_option maxHeartbeats 4000000 in
set_option maxRecDepth 100000 in
theorem okX2_addBit (l : Launch) (X : Xt) (k0 : Nat) (hk0 : Is 2 k0) (m0 : Mem) (a1 : Int32) : Ct l yX2_addBit cX2_addBit 2 (some .boolean) rmX2_addBit ιI X [.ref (xad X k0), .int a1] m0 (fX2_addBit k0 m0 a1) := by
  refine ct_of (own := RX2) (ls := [(0, .ref (xad X k0)), (1, .int a1)]) (by decide) rfl rfl (Nat.le_of_ble_eq_true rfl) (fun K => ?_)
  show gX2_addBit K X 0 0 0 [(0, .ref (xad X k0)), (1, .int a1)] [] m0 (fX2_addBit k0 m0 a1)
  delta fX2_addBit
  refine ge_aload_n 0 DX2_addBit_0 rfl ?_
  refine ge_getI DX2_addBit_1 fl_X2_15 hk0 (by decide) rfl ?_
  refine ge_bipush (v := (8 : Int32)) DX2_addBit_4 rfl ?_
  refine ge_icmp_lt (tgt := 11) DX2_addBit_6 (by decide) ?_ ?_
  · refine ge_aload_n 0 DX2_addBit_11 rfl ?_
    refine ge_getR (i := (k0 + 1)) DX2_addBit_12 fl_X2_9 hk0 (by decide) rfl ?_
    refine ge_aload_n 0 DX2_addBit_15 rfl ?_
    refine ge_getI DX2_addBit_16 fl_X2_15 hk0 (by decide) rfl ?_
    refine ge_iload_n 1 DX2_addBit_19 rfl ?_
    refine ge_iast DX2_addBit_20 (is2_1 hk0) (al2_1 hk0) (fun m1 => ?_)
    refine ge_aload_n 0 DX2_addBit_21 rfl ?_
    refine ge_dup DX2_addBit_22 rfl ?_
    refine ge_getI DX2_addBit_23 fl_X2_15 hk0 (by decide) rfl ?_
    refine ge_iconst (v := (1 : Int32)) DX2_addBit_26 rfl ?_
    refine ge_iadd DX2_addBit_27 ?_
    refine ge_put DX2_addBit_28 fp_X2_15 hk0 (by decide) rfl (fun m2 => ?_)
    refine ge_aload_n 0 DX2_addBit_31 rfl ?_
    refine ge_dup DX2_addBit_32 rfl ?_
    refine ge_getI DX2_addBit_33 fl_X2_19 hk0 (by decide) rfl ?_
    refine ge_iconst (v := (1 : Int32)) DX2_addBit_36 rfl ?_
    refine ge_iload_n 1 DX2_addBit_37 rfl ?_
    refine ge_ishl DX2_addBit_38 ?_
    refine ge_ior DX2_addBit_39 ?_
    refine ge_put DX2_addBit_40 fp_X2_19 hk0 (by decide) rfl (fun m3 => ?_)
    refine ge_iconst (v := (1 : Int32)) DX2_addBit_43 rfl ?_
    exact ge_zretc rfl rfl DX2_addBit_44
  · refine ge_iconst (v := (0 : Int32)) DX2_addBit_9 rfl ?_
    exact ge_zretc rfl rfl DX2_addBit_10
abbrev gX2_canHold (K : Kt) (X : Xt) := GE (R := Int32) K rmX2_canHold X cX2_canHold 3 RX2 (some .boolean) (finM K X ιI 0 0)
set_option maxHeartbeats 4000000 in
set_option maxRecDepth 100000 in
theorem okX2_canHold (l : Launch) (X : Xt) (k0 : Nat) (hk0 : Is 2 k0) (m0 : Mem) (a1 : Int32) : Ct l yX2_canHold cX2_canHold 3 (some .boolean) rmX2_canHold ιI X [.ref (xad X k0), .int a1] m0 (fX2_canHold k0 m0 a1) := by
  refine ct_of (own := RX2) (ls := [(0, .ref (xad X k0)), (1, .int a1)]) (by decide) rfl rfl (Nat.le_of_ble_eq_true rfl) (fun K => ?_)
  show gX2_canHold K X 0 0 0 [(0, .ref (xad X k0)), (1, .int a1)] [] m0 (fX2_canHold k0 m0 a1)
  delta fX2_canHold
  refine ge_aload_n 0 DX2_canHold_0 rfl ?_
  refine ge_getI DX2_canHold_1 fl_X2_22 hk0 (by decide) rfl ?_
  refine ge_jn (P := fun k => ∀ (v1 : Int32), gX2_canHold K X 0 0 20 [(0, .ref (xad X k0)), (1, .int a1)] [.int v1] m0 (k v1)) (fun v1 => ?_) (fun j20 hj20 => ?_)
  · refine ge_istore_n (ls' := [(2, .int v1), (0, .ref (xad X k0)), (1, .int a1)]) DX2_canHold_20 (by decide) rfl ?_
    refine ge_iload_n 2 DX2_canHold_21 rfl ?_
    refine ge_iload_n 0 DX2_canHold_22 rfl ?_
    refine ge_icmp_lt (tgt := 42) DX2_canHold_23 (by decide) ?_ ?_
    · refine ge_iconst (v := (0 : Int32)) DX2_canHold_42 rfl ?_
      exact ge_zretc rfl rfl DX2_canHold_43
    · refine ge_iload_n 2 DX2_canHold_26 rfl ?_
      refine ge_iload_n 0 DX2_canHold_27 rfl ?_
      refine ge_iconst (v := (1 : Int32)) DX2_canHold_28 rfl ?_
      refine ge_aload_n 1 DX2_canHold_29 rfl ?_
      refine ge_getI DX2_canHold_30 fl_X2_15 hk0 (by decide) rfl ?_
      refine ge_ishl DX2_canHold_33 ?_
      refine ge_iadd DX2_canHold_34 ?_
      refine ge_icmp_ge (tgt := 42) DX2_canHold_35 (by decide) ?_ ?_
      · refine ge_iconst (v := (1 : Int32)) DX2_canHold_38 rfl ?_
        refine ge_goto (tgt := 43) DX2_canHold_39 (by decide) ?_
        exact ge_zretc rfl rfl DX2_canHold_43
      · refine ge_iconst (v := (0 : Int32)) DX2_canHold_42 rfl ?_
        exact ge_zretc rfl rfl DX2_canHold_43
  refine ge_if_eq (tgt := 19) DX2_canHold_4 (by decide) ?_ ?_
  · refine ge_iconst (v := (0 : Int32)) DX2_canHold_19 rfl ?_
    exact hj20 (0 : Int32)
  · refine ge_iconst (v := (1 : Int32)) DX2_canHold_7 rfl ?_
    refine ge_aload_n 0 DX2_canHold_8 rfl ?_
    refine ge_getI DX2_canHold_9 fl_X2_15 hk0 (by decide) rfl ?_
    refine ge_ishl DX2_canHold_12 ?_
    refine ge_ineg DX2_canHold_13 ?_
    refine ge_iconst (v := (2 : Int32)) DX2_canHold_14 rfl ?_
    refine ge_idivc DX2_canHold_15 rfl ?_
    refine ge_goto (tgt := 20) DX2_canHold_16 (by decide) ?_
    exact hj20 ((-((1 : Int32) <<< ((m0 k0 2) &&& 31))) / (2 : Int32))
abbrev gX2_numberIn (K : Kt) (X : Xt) := GE (R := Int32) K rmX2_numberIn X cX2_numberIn 4 RX2 (some .int) (finM K X ιI 0 0)
set_option maxHeartbeats 4000000 in
set_option maxRecDepth 100000 in
theorem lX2_numberIn_L32 (K : Kt) (X : Xt) {k61 : Int32 → Option (Int32 × Mem)} (m2 : Mem) (q3 : Nat) (y4 : Int32) (hq3 : Is 2 q3) (hk61 : ∀ (x7 : Int32), gX2_numberIn K X 0 0 61 [(2, .int x7)] [] m2 (k61 x7)) :
    ∀ (n : Nat) (x5 : Int32) (x6 : Int32), gX2_numberIn K X 0 0 32 [(0, .ref (xad X q3)), (1, .int y4), (2, .int x5), (3, .int x6)] [] m2 (fX2_numberIn_L32 k61 m2 q3 y4 n x5 x6) := by
  intro n
  induction n with
  | zero => intro x5 x6; exact ge_none
  | succ n ih =>
    intro x5 x6
    show gX2_numberIn K X 0 0 32 [(0, .ref (xad X q3)), (1, .int y4), (2, .int x5), (3, .int x6)] [] m2 (fX2_numberIn_L32_b k61 m2 q3 y4 (fX2_numberIn_L32 k61 m2 q3 y4 n) x5 x6)
    delta fX2_numberIn_L32_b
    refine ge_iload_n 3 DX2_numberIn_32 rfl ?_
    refine ge_aload_n 0 DX2_numberIn_33 rfl ?_
    refine ge_getI DX2_numberIn_34 fl_X2_15 hq3 (by decide) rfl ?_
    refine ge_icmp_ge (tgt := 61) DX2_numberIn_37 (by decide) ?_ ?_
    · refine ge_iconst (v := (2 : Int32)) DX2_numberIn_40 rfl ?_
      refine ge_iload_n 2 DX2_numberIn_41 rfl ?_
      refine ge_imul DX2_numberIn_42 ?_
      refine ge_iload_n 1 DX2_numberIn_43 rfl ?_
      refine ge_aload_n 0 DX2_numberIn_44 rfl ?_
      refine ge_getR (i := (q3 + 1)) DX2_numberIn_45 fl_X2_9 hq3 (by decide) rfl ?_
      refine ge_iload_n 3 DX2_numberIn_48 rfl ?_
      refine ge_iald DX2_numberIn_49 (is2_1 hq3) (al2_1 hq3) ?_
      refine ge_ishr DX2_numberIn_50 ?_
      refine ge_iconst (v := (1 : Int32)) DX2_numberIn_51 rfl ?_
      refine ge_iand DX2_numberIn_52 ?_
      refine ge_iadd DX2_numberIn_53 ?_
      refine ge_topi (fun x9 => ?_)
      refine ge_istore_n (ls' := [(2, .int x9), (0, .ref (xad X q3)), (1, .int y4), (3, .int x6)]) DX2_numberIn_54 (by decide) rfl ?_
      refine ge_iinc 3 (v := (x6 + (1 : Int32))) (ls' := [(3, .int (x6 + (1 : Int32))), (2, .int x9), (0, .ref (xad X q3)), (1, .int y4)]) DX2_numberIn_55 rfl rfl (by decide) rfl ?_
      refine ge_goto (tgt := 32) DX2_numberIn_58 (by decide) ?_
      refine ge_sub [2, 3, 1, 0] rfl ?_
      exact ih x9 (x6 + (1 : Int32))
    · refine ge_sub [2] rfl ?_
      exact hk61 x5
set_option maxHeartbeats 4000000 in
set_option maxRecDepth 100000 in
theorem okX2_numberIn (l : Launch) (X : Xt) (k0 : Nat) (hk0 : Is 2 k0) (m0 : Mem) (a1 : Int32) : Ct l yX2_numberIn cX2_numberIn 4 (some .int) rmX2_numberIn ιI X [.ref (xad X k0), .int a1] m0 (fX2_numberIn k0 m0 a1) := by
  refine ct_of (own := RX2) (ls := [(0, .ref (xad X k0)), (1, .int a1)]) (by decide) rfl rfl (Nat.le_of_ble_eq_true rfl) (fun K => ?_)
  show gX2_numberIn K X 0 0 0 [(0, .ref (xad X k0)), (1, .int a1)] [] m0 (fX2_numberIn k0 m0 a1)
  delta fX2_numberIn
  refine ge_aload_n 0 DX2_numberIn_0 rfl ?_
  refine ge_getI DX2_numberIn_1 fl_X2_22 hk0 (by decide) rfl ?_
  refine ge_jn (P := fun k => ∀ (v1 : Int32), gX2_numberIn K X 0 0 29 [(0, .ref (xad X k0)), (1, .int a1)] [.int v1] m0 (k v1)) (fun v1 => ?_) (fun j29 hj29 => ?_)
  · refine ge_istore_n (ls' := [(2, .int v1), (0, .ref (xad X k0)), (1, .int a1)]) DX2_numberIn_29 (by decide) rfl ?_
    refine ge_iconst (v := (0 : Int32)) DX2_numberIn_30 rfl ?_
    refine ge_istore_n (ls' := [(3, .int (0 : Int32)), (2, .int v1), (0, .ref (xad X k0)), (1, .int a1)]) DX2_numberIn_31 (by decide) rfl ?_
    refine ge_sub [2, 3, 1, 0] rfl ?_
    refine lX2_numberIn_L32 K X m0 k0 a1 hk0 (fun x8 => ?_) 5000 v1 (0 : Int32)
    · refine ge_iload_n 0 DX2_numberIn_61 rfl ?_
      exact ge_iret rfl DX2_numberIn_62
  refine ge_jn (P := fun k => gX2_numberIn K X 0 0 28 [(0, .ref (xad X k0)), (1, .int a1)] [] m0 k) ?_ (fun j28 hj28 => ?_)
  · refine ge_iconst (v := (0 : Int32)) DX2_numberIn_28 rfl ?_
    exact hj29 (0 : Int32)
  refine ge_if_eq (tgt := 28) DX2_numberIn_4 (by decide) ?_ ?_
  · exact hj28
  · refine ge_aload_n 0 DX2_numberIn_7 rfl ?_
    refine ge_getI DX2_numberIn_8 fl_X2_15 hk0 (by decide) rfl ?_
    refine ge_if_le (tgt := 28) DX2_numberIn_11 (by decide) ?_ ?_
    · refine ge_iload_n 1 DX2_numberIn_14 rfl ?_
      refine ge_aload_n 0 DX2_numberIn_15 rfl ?_
      refine ge_getR (i := (k0 + 1)) DX2_numberIn_16 fl_X2_9 hk0 (by decide) rfl ?_
      refine ge_iconst (v := (0 : Int32)) DX2_numberIn_19 rfl ?_
      refine ge_iald DX2_numberIn_20 (is2_1 hk0) (al2_1 hk0) ?_
      refine ge_ishr DX2_numberIn_21 ?_
      refine ge_iconst (v := (1 : Int32)) DX2_numberIn_22 rfl ?_
      refine ge_iand DX2_numberIn_23 ?_
      refine ge_ineg DX2_numberIn_24 ?_
      refine ge_goto (tgt := 29) DX2_numberIn_25 (by decide) ?_
      exact hj29 (-((a1 >>> ((m0 (k0 + 1) (ix (0 : Int32))) &&& 31)) &&& (1 : Int32)))
    · exact hj28
abbrev gX2_putInto (K : Kt) (X : Xt) := GE (R := Int32) K rmX2_putInto X cX2_putInto 5 RX2 (some .int) (finM K X ιI 0 0)
set_option maxHeartbeats 4000000 in
set_option maxRecDepth 100000 in
theorem lX2_putInto_L12 (K : Kt) (X : Xt) {k51 : Int32 → Option (Int32 × Mem)} (m2 : Mem) (q3 : Nat) (y4 : Int32) (hq3 : Is 2 q3) (hk51 : ∀ (x7 : Int32), gX2_putInto K X 0 0 51 [(3, .int x7)] [] m2 (k51 x7)) :
    ∀ (n : Nat) (x5 : Int32) (x6 : Int32), gX2_putInto K X 0 0 12 [(0, .ref (xad X q3)), (2, .int y4), (3, .int x5), (4, .int x6)] [] m2 (fX2_putInto_L12 k51 m2 q3 y4 n x5 x6) := by
  intro n
  induction n with
  | zero => intro x5 x6; exact ge_none
  | succ n ih =>
    intro x5 x6
    show gX2_putInto K X 0 0 12 [(0, .ref (xad X q3)), (2, .int y4), (3, .int x5), (4, .int x6)] [] m2 (fX2_putInto_L12_b k51 m2 q3 y4 (fX2_putInto_L12 k51 m2 q3 y4 n) x5 x6)
    delta fX2_putInto_L12_b
    refine ge_iload 3 DX2_putInto_12 rfl ?_
    refine ge_aload_n 0 DX2_putInto_14 rfl ?_
    refine ge_getI DX2_putInto_15 fl_X2_15 hq3 (by decide) rfl ?_
    refine ge_icmp_ge (tgt := 51) DX2_putInto_18 (by decide) ?_ ?_
    · refine ge_iload_n 2 DX2_putInto_21 rfl ?_
      refine ge_iload_n 1 DX2_putInto_22 rfl ?_
      refine ge_aload_n 0 DX2_putInto_23 rfl ?_
      refine ge_getI DX2_putInto_24 fl_X2_15 hq3 (by decide) rfl ?_
      refine ge_iconst (v := (1 : Int32)) DX2_putInto_27 rfl ?_
      refine ge_isub DX2_putInto_28 ?_
      refine ge_iload 3 DX2_putInto_29 rfl ?_
      refine ge_isub DX2_putInto_31 ?_
      refine ge_ishr DX2_putInto_32 ?_
      refine ge_iconst (v := (1 : Int32)) DX2_putInto_33 rfl ?_
      refine ge_iand DX2_putInto_34 ?_
      refine ge_aload_n 0 DX2_putInto_35 rfl ?_
      refine ge_getR (i := (q3 + 1)) DX2_putInto_36 fl_X2_9 hq3 (by decide) rfl ?_
      refine ge_iload 3 DX2_putInto_39 rfl ?_
      refine ge_iald DX2_putInto_41 (is2_1 hq3) (al2_1 hq3) ?_
      refine ge_ishl DX2_putInto_42 ?_
      refine ge_ior DX2_putInto_43 ?_
      refine ge_topi (fun x9 => ?_)
      refine ge_istore_n (ls' := [(3, .int x9), (0, .ref (xad X q3)), (2, .int y4), (4, .int x6)]) DX2_putInto_44 (by decide) rfl ?_
      refine ge_iinc 3 (v := (x6 + (1 : Int32))) (ls' := [(4, .int (x6 + (1 : Int32))), (3, .int x9), (0, .ref (xad X q3)), (2, .int y4)]) DX2_putInto_45 rfl rfl (by decide) rfl ?_
      refine ge_goto (tgt := 12) DX2_putInto_48 (by decide) ?_
      refine ge_sub [2, 3, 1, 0] rfl ?_
      exact ih x9 (x6 + (1 : Int32))
    · refine ge_sub [2] rfl ?_
      exact hk51 x5
set_option maxHeartbeats 4000000 in
set_option maxRecDepth 100000 in
theorem okX2_putInto (l : Launch) (X : Xt) (k0 : Nat) (hk0 : Is 2 k0) (m0 : Mem) (a1 : Int32) (a2 : Int32) : Ct l yX2_putInto cX2_putInto 5 (some .int) rmX2_putInto ιI X [.ref (xad X k0), .int a1, .int a2] m0 (fX2_putInto k0 m0 a1 a2) := by
  refine ct_of (own := RX2) (ls := [(0, .ref (xad X k0)), (1, .int a1), (2, .int a2)]) (by decide) rfl rfl (Nat.le_of_ble_eq_true rfl) (fun K => ?_)
  show gX2_putInto K X 0 0 0 [(0, .ref (xad X k0)), (1, .int a1), (2, .int a2)] [] m0 (fX2_putInto k0 m0 a1 a2)
  delta fX2_putInto
  refine ge_iload_n 1 DX2_putInto_0 rfl ?_
  refine ge_aload_n 0 DX2_putInto_1 rfl ?_
  refine ge_getI DX2_putInto_2 fl_X2_19 hk0 (by decide) rfl ?_
  refine ge_iconst (v := (-1 : Int32)) DX2_putInto_5 rfl ?_
  refine ge_ixor DX2_putInto_6 ?_
  refine ge_iand DX2_putInto_7 ?_
  refine ge_topi (fun x1 => ?_)
  refine ge_istore_n (ls' := [(3, .int x1), (0, .ref (xad X k0)), (1, .int a1), (2, .int a2)]) DX2_putInto_8 (by decide) rfl ?_
  refine ge_iconst (v := (0 : Int32)) DX2_putInto_9 rfl ?_
  refine ge_istore (ls' := [(4, .int (0 : Int32)), (3, .int x1), (0, .ref (xad X k0)), (1, .int a1), (2, .int a2)]) DX2_putInto_10 (by decide) rfl ?_
  refine ge_sub [2, 4, 1, 0] rfl ?_
  refine lX2_putInto_L12 K X m0 k0 a2 hk0 (fun x8 => ?_) 5000 x1 (0 : Int32)
  · refine ge_iload_n 0 DX2_putInto_51 rfl ?_
    exact ge_iret rfl DX2_putInto_52
abbrev gX3_clear (K : Kt) (X : Xt) := GE (R := Unit) K rmX3_clear X cX3_clear 2 RX3 none (finM K X ιV 0 0)
set_option maxHeartbeats 4000000 in
set_option maxRecDepth 100000 in
theorem lX3_clear_L27 (K : Kt) (X : Xt) {k48 : Mem → Option (Unit × Mem)} (q7 : Nat) (hq7 : Is 3 q7) (hk48 : ∀ (m9 : Mem), gX3_clear K X 0 0 48 [] [] m9 (k48 m9)) :
    ∀ (n : Nat) (m6 : Mem) (x8 : Int32), gX3_clear K X 0 0 27 [(0, .ref (xad X q7)), (1, .int x8)] [] m6 (fX3_clear_L27 k48 q7 n m6 x8) := by
  intro n
  induction n with
  | zero => intro m6 x8; exact ge_none
  | succ n ih =>
    intro m6 x8
    show gX3_clear K X 0 0 27 [(0, .ref (xad X q7)), (1, .int x8)] [] m6 (fX3_clear_L27_b k48 q7 (fX3_clear_L27 k48 q7 n) m6 x8)
    delta fX3_clear_L27_b
    refine ge_iload_n 1 DX3_clear_27 rfl ?_
    refine ge_bipush (v := (8 : Int32)) DX3_clear_28 rfl ?_
    refine ge_icmp_ge (tgt := 48) DX3_clear_30 (by decide) ?_ ?_
    · refine ge_aload_n 0 DX3_clear_33 rfl ?_
      refine ge_getR (i := (q7 + 1)) DX3_clear_34 fl_X3_26 hq7 (by decide) rfl ?_
      refine ge_iload_n 1 DX3_clear_37 rfl ?_
      refine ge_aaldD DX3_clear_38 (is3_4 hq7) (fun hb11 => ?_)
      refine ge_callVv0 (st := []) cm_X3_52 DX3_clear_39 (isD (is3_4 hq7) hb11) rfl (okX2_clear (kl K) X ((q7 + 1) + 5 + 2 * ix x8) (isD (is3_4 hq7) hb11) m6) rfl rfl (Nat.le_of_ble_eq_true rfl) (by decide) ⟨rfl, rfl⟩ ⟨Nat.zero_le _, Nat.zero_le _⟩ (fun m12 => ?_)
      refine ge_iinc 1 (v := (x8 + (1 : Int32))) (ls' := [(1, .int (x8 + (1 : Int32))), (0, .ref (xad X q7))]) DX3_clear_42 rfl rfl (by decide) rfl ?_
      refine ge_goto (tgt := 27) DX3_clear_45 (by decide) ?_
      refine ge_sub [1, 0] rfl ?_
      exact ih m12 (x8 + (1 : Int32))
    · refine ge_sub [] rfl ?_
      exact hk48 m6
set_option maxHeartbeats 4000000 in
set_option maxRecDepth 100000 in
theorem okX3_clear (l : Launch) (X : Xt) (k0 : Nat) (hk0 : Is 3 k0) (m0 : Mem) : Ct l yX3_clear cX3_clear 2 none rmX3_clear ιV X [.ref (xad X k0)] m0 (fX3_clear k0 m0) := by
  refine ct_of (own := RX3) (ls := [(0, .ref (xad X k0))]) (by decide) rfl rfl (Nat.le_of_ble_eq_true rfl) (fun K => ?_)
  show gX3_clear K X 0 0 0 [(0, .ref (xad X k0))] [] m0 (fX3_clear k0 m0)
  delta fX3_clear
  refine ge_aload_n 0 DX3_clear_0 rfl ?_
  refine ge_iconst (v := (0 : Int32)) DX3_clear_1 rfl ?_
  refine ge_put DX3_clear_2 fp_X3_15 hk0 (by decide) rfl (fun m1 => ?_)
  refine ge_aload_n 0 DX3_clear_5 rfl ?_
  refine ge_iconst (v := (0 : Int32)) DX3_clear_6 rfl ?_
  refine ge_put DX3_clear_7 fp_X3_18 hk0 (by decide) rfl (fun m2 => ?_)
  refine ge_aload_n 0 DX3_clear_10 rfl ?_
  refine ge_iconst (v := (0 : Int32)) DX3_clear_11 rfl ?_
  refine ge_put DX3_clear_12 fp_X3_21 hk0 (by decide) rfl (fun m3 => ?_)
  refine ge_aload_n 0 DX3_clear_15 rfl ?_
  refine ge_iconst (v := (0 : Int32)) DX3_clear_16 rfl ?_
  refine ge_put DX3_clear_17 fp_X3_34 hk0 (by decide) rfl (fun m4 => ?_)
  refine ge_aload_n 0 DX3_clear_20 rfl ?_
  refine ge_iconst (v := (0 : Int32)) DX3_clear_21 rfl ?_
  refine ge_put DX3_clear_22 fp_X3_46 hk0 (by decide) rfl (fun m5 => ?_)
  refine ge_iconst (v := (0 : Int32)) DX3_clear_25 rfl ?_
  refine ge_istore_n (ls' := [(1, .int (0 : Int32)), (0, .ref (xad X k0))]) DX3_clear_26 (by decide) rfl ?_
  refine ge_sub [1, 0] rfl ?_
  refine lX3_clear_L27 K X k0 hk0 (fun m10 => ?_) 5000 m5 (0 : Int32)
  · exact ge_vret rfl DX3_clear_48
abbrev gX10_letterOf (K : Kt) (X : Xt) := GE (R := Int32) K rmX10_letterOf X cX10_letterOf 1 RX10 (some .int) (finM K X ιI 0 0)
set_option maxHeartbeats 4000000 in
set_option maxRecDepth 100000 in
theorem okX10_letterOf (l : Launch) (X : Xt) (m0 : Mem) (a0 : Int32) : Ct l yX10_letterOf cX10_letterOf 1 (some .int) rmX10_letterOf ιI X [.int a0] m0 (fX10_letterOf m0 a0) := by
  refine ct_of (own := RX10) (ls := [(0, .int a0)]) (by decide) rfl rfl (Nat.le_of_ble_eq_true rfl) (fun K => ?_)
  show gX10_letterOf K X 0 0 0 [(0, .int a0)] [] m0 (fX10_letterOf m0 a0)
  delta fX10_letterOf
  refine ge_iload_n 0 DX10_letterOf_0 rfl ?_
  refine ge_bipush (v := (119 : Int32)) DX10_letterOf_1 rfl ?_
  refine ge_jn (P := fun k => gX10_letterOf K X 0 0 17 [(0, .int a0)] [] m0 k) ?_ (fun j17 hj17 => ?_)
  · refine ge_iload_n 0 DX10_letterOf_17 rfl ?_
    refine ge_bipush (v := (87 : Int32)) DX10_letterOf_18 rfl ?_
    refine ge_icmp_lt (tgt := 38) DX10_letterOf_20 (by decide) ?_ ?_
    · refine ge_iconst (v := (-1 : Int32)) DX10_letterOf_38 rfl ?_
      exact ge_iret rfl DX10_letterOf_39
    · refine ge_iload_n 0 DX10_letterOf_23 rfl ?_
      refine ge_bipush (v := (90 : Int32)) DX10_letterOf_24 rfl ?_
      refine ge_icmp_gt (tgt := 38) DX10_letterOf_26 (by decide) ?_ ?_
      · refine ge_iconst (v := (-1 : Int32)) DX10_letterOf_38 rfl ?_
        exact ge_iret rfl DX10_letterOf_39
      · refine ge_iload_n 0 DX10_letterOf_29 rfl ?_
        refine ge_bipush (v := (87 : Int32)) DX10_letterOf_30 rfl ?_
        refine ge_isub DX10_letterOf_32 ?_
        refine ge_iconst (v := (4 : Int32)) DX10_letterOf_33 rfl ?_
        refine ge_iadd DX10_letterOf_34 ?_
        refine ge_goto (tgt := 39) DX10_letterOf_35 (by decide) ?_
        exact ge_iret rfl DX10_letterOf_39
  refine ge_icmp_lt (tgt := 17) DX10_letterOf_3 (by decide) ?_ ?_
  · exact hj17
  · refine ge_iload_n 0 DX10_letterOf_6 rfl ?_
    refine ge_bipush (v := (122 : Int32)) DX10_letterOf_7 rfl ?_
    refine ge_icmp_gt (tgt := 17) DX10_letterOf_9 (by decide) ?_ ?_
    · exact hj17
    · refine ge_iload_n 0 DX10_letterOf_12 rfl ?_
      refine ge_bipush (v := (119 : Int32)) DX10_letterOf_13 rfl ?_
      refine ge_isub DX10_letterOf_15 ?_
      exact ge_iret rfl DX10_letterOf_16
abbrev gX3_addSign (K : Kt) (X : Xt) := GE (R := Int32) K rmX3_addSign X cX3_addSign 4 RX3 (some .boolean) (finM K X ιI 0 0)
set_option maxHeartbeats 4000000 in
set_option maxRecDepth 100000 in
theorem okX3_addSign (l : Launch) (X : Xt) (k0 : Nat) (hk0 : Is 3 k0) (m0 : Mem) (a1 : Int32) (a2 : Int32) : Ct l yX3_addSign cX3_addSign 4 (some .boolean) rmX3_addSign ιI X [.ref (xad X k0), .int a1, .int a2] m0 (fX3_addSign k0 m0 a1 a2) := by
  refine ct_of (own := RX3) (ls := [(0, .ref (xad X k0)), (1, .int a1), (2, .int a2)]) (by decide) rfl rfl (Nat.le_of_ble_eq_true rfl) (fun K => ?_)
  show gX3_addSign K X 0 0 0 [(0, .ref (xad X k0)), (1, .int a1), (2, .int a2)] [] m0 (fX3_addSign k0 m0 a1 a2)
  delta fX3_addSign
  refine ge_iload_n 1 DX3_addSign_0 rfl ?_
  refine ge_bipush (v := (46 : Int32)) DX3_addSign_1 rfl ?_
  refine ge_icmp_ne (tgt := 8) DX3_addSign_3 (by decide) ?_ ?_
  · refine ge_iconst (v := (1 : Int32)) DX3_addSign_6 rfl ?_
    exact ge_zretc rfl rfl DX3_addSign_7
  · refine ge_iload_n 1 DX3_addSign_8 rfl ?_
    refine ge_bipush (v := (48 : Int32)) DX3_addSign_9 rfl ?_
    refine ge_jn (P := fun k => gX3_addSign K X 0 0 20 [(0, .ref (xad X k0)), (1, .int a1), (2, .int a2)] [] m0 k) ?_ (fun j20 hj20 => ?_)
    · refine ge_aload_n 0 DX3_addSign_20 rfl ?_
      refine ge_dup DX3_addSign_21 rfl ?_
      refine ge_getI DX3_addSign_22 fl_X3_18 hk0 (by decide) rfl ?_
      refine ge_iconst (v := (1 : Int32)) DX3_addSign_25 rfl ?_
      refine ge_iload_n 2 DX3_addSign_26 rfl ?_
      refine ge_ishl DX3_addSign_27 ?_
      refine ge_ior DX3_addSign_28 ?_
      refine ge_put DX3_addSign_29 fp_X3_18 hk0 (by decide) rfl (fun m1 => ?_)
      refine ge_aload_n 0 DX3_addSign_32 rfl ?_
      refine ge_dup DX3_addSign_33 rfl ?_
      refine ge_getI DX3_addSign_34 fl_X3_21 hk0 (by decide) rfl ?_
      refine ge_iload_n 1 DX3_addSign_37 rfl ?_
      refine ge_bipush (v := (48 : Int32)) DX3_addSign_38 rfl ?_
      refine ge_isub DX3_addSign_40 ?_
      refine ge_iload_n 2 DX3_addSign_41 rfl ?_
      refine ge_ishl DX3_addSign_42 ?_
      refine ge_ior DX3_addSign_43 ?_
      refine ge_put DX3_addSign_44 fp_X3_21 hk0 (by decide) rfl (fun m2 => ?_)
      refine ge_iconst (v := (1 : Int32)) DX3_addSign_47 rfl ?_
      exact ge_zretc rfl rfl DX3_addSign_48
    refine ge_icmp_eq (tgt := 20) DX3_addSign_11 (by decide) ?_ ?_
    · exact hj20
    · refine ge_iload_n 1 DX3_addSign_14 rfl ?_
      refine ge_bipush (v := (49 : Int32)) DX3_addSign_15 rfl ?_
      refine ge_icmp_ne (tgt := 49) DX3_addSign_17 (by decide) ?_ ?_
      · exact hj20
      · refine ge_iload_n 1 DX3_addSign_49 rfl ?_
        refine ge_callSi0 (st := []) cm_X3_55 DX3_addSign_50 (okX10_letterOf (kl K) X m0 a1) rfl rfl (Nat.le_of_ble_eq_true rfl) (by decide) ⟨rfl, rfl⟩ ⟨Nat.zero_le _, Nat.zero_le _⟩ (fun r4 m3 => ?_)
        refine ge_istore_n (ls' := [(3, .int r4), (0, .ref (xad X k0)), (1, .int a1), (2, .int a2)]) DX3_addSign_53 (by decide) rfl ?_
        refine ge_iload_n 0 DX3_addSign_54 rfl ?_
        refine ge_iconst (v := (-1 : Int32)) DX3_addSign_55 rfl ?_
        refine ge_icmp_ne (tgt := 61) DX3_addSign_56 (by decide) ?_ ?_
        · refine ge_iconst (v := (0 : Int32)) DX3_addSign_59 rfl ?_
          exact ge_zretc rfl rfl DX3_addSign_60
        · refine ge_aload_n 1 DX3_addSign_61 rfl ?_
          refine ge_getR (i := (k0 + 1)) DX3_addSign_62 fl_X3_26 hk0 (by decide) rfl ?_
          refine ge_iload_n 0 DX3_addSign_65 rfl ?_
          refine ge_aaldD DX3_addSign_66 (is3_4 hk0) (fun hb5 => ?_)
          refine ge_getI DX3_addSign_67 fl_X3_59 (isD (is3_4 hk0) hb5) (by decide) rfl ?_
          refine ge_jn (P := fun k => ∀ (m6 : Mem), gX3_addSign K X 0 0 102 [(0, .ref (xad X k0)), (2, .int a2), (3, .int r4)] [] m6 (k m6)) (fun m6 => ?_) (fun j102 hj102 => ?_)
          · refine ge_aload_n 0 DX3_addSign_102 rfl ?_
            refine ge_getR (i := (k0 + 1)) DX3_addSign_103 fl_X3_26 hk0 (by decide) rfl ?_
            refine ge_iload_n 2 DX3_addSign_106 rfl ?_
            refine ge_aaldD DX3_addSign_107 (is3_4 hk0) (fun hb7 => ?_)
            refine ge_iload_n 1 DX3_addSign_108 rfl ?_
            refine ge_callVi0 (st := []) cm_X3_62 DX3_addSign_109 (isD (is3_4 hk0) hb7) rfl (okX2_addBit (kl K) X ((k0 + 1) + 5 + 2 * ix r4) (isD (is3_4 hk0) hb7) m6 a2) rfl rfl (Nat.le_of_ble_eq_true rfl) (by decide) ⟨rfl, rfl⟩ ⟨Nat.zero_le _, Nat.zero_le _⟩ (fun r9 m8 => ?_)
            exact ge_zret rfl DX3_addSign_112
          refine ge_if_ne (tgt := 102) DX3_addSign_70 (by decide) ?_ ?_
          · refine ge_aload_n 1 DX3_addSign_73 rfl ?_
            refine ge_getI DX3_addSign_74 fl_X3_34 hk0 (by decide) rfl ?_
            refine ge_bipush (v := (8 : Int32)) DX3_addSign_77 rfl ?_
            refine ge_icmp_ge (tgt := 102) DX3_addSign_79 (by decide) ?_ ?_
            · refine ge_aload_n 1 DX3_addSign_82 rfl ?_
              refine ge_getR (i := (k0 + 2)) DX3_addSign_83 fl_X3_30 hk0 (by decide) rfl ?_
              refine ge_aload_n 1 DX3_addSign_86 rfl ?_
              refine ge_getI DX3_addSign_87 fl_X3_34 hk0 (by decide) rfl ?_
              refine ge_iload_n 0 DX3_addSign_90 rfl ?_
              refine ge_iast DX3_addSign_91 (is3_5 hk0) (al3_5 hk0) (fun m10 => ?_)
              refine ge_aload_n 1 DX3_addSign_92 rfl ?_
              refine ge_dup DX3_addSign_93 rfl ?_
              refine ge_getI DX3_addSign_94 fl_X3_34 hk0 (by decide) rfl ?_
              refine ge_iconst (v := (1 : Int32)) DX3_addSign_97 rfl ?_
              refine ge_iadd DX3_addSign_98 ?_
              refine ge_put DX3_addSign_99 fp_X3_34 hk0 (by decide) rfl (fun m11 => ?_)
              refine ge_sub [1, 3, 0] rfl ?_
              exact hj102 m11
            · refine ge_sub [1, 3, 0] rfl ?_
              exact hj102 m3
          · refine ge_sub [1, 3, 0] rfl ?_
            exact hj102 m3
abbrev gX3_addRule (K : Kt) (X : Xt) := GE (R := Unit) K rmX3_addRule X cX3_addRule 4 RX3 none (finM K X ιV 0 0)
set_option maxHeartbeats 4000000 in
set_option maxRecDepth 100000 in
theorem okX3_addRule (l : Launch) (X : Xt) (k0 : Nat) (hk0 : Is 3 k0) (m0 : Mem) (a1 : Int32) (a2 : Int32) (a3 : Int32) : Ct l yX3_addRule cX3_addRule 4 none rmX3_addRule ιV X [.ref (xad X k0), .int a1, .int a2, .int a3] m0 (fX3_addRule k0 m0 a1 a2 a3) := by
  refine ct_of (own := RX3) (ls := [(0, .ref (xad X k0)), (1, .int a1), (2, .int a2), (3, .int a3)]) (by decide) rfl rfl (Nat.le_of_ble_eq_true rfl) (fun K => ?_)
  show gX3_addRule K X 0 0 0 [(0, .ref (xad X k0)), (1, .int a1), (2, .int a2), (3, .int a3)] [] m0 (fX3_addRule k0 m0 a1 a2 a3)
  delta fX3_addRule
  refine ge_aload_n 0 DX3_addRule_0 rfl ?_
  refine ge_getI DX3_addRule_1 fl_X3_46 hk0 (by decide) rfl ?_
  refine ge_iconst (v := (3 : Int32)) DX3_addRule_4 rfl ?_
  refine ge_icmp_ge (tgt := 48) DX3_addRule_5 (by decide) ?_ ?_
  · refine ge_aload_n 0 DX3_addRule_8 rfl ?_
    refine ge_getR (i := (k0 + 4)) DX3_addRule_9 fl_X3_40 hk0 (by decide) rfl ?_
    refine ge_aload_n 0 DX3_addRule_12 rfl ?_
    refine ge_getI DX3_addRule_13 fl_X3_46 hk0 (by decide) rfl ?_
    refine ge_iload_n 1 DX3_addRule_16 rfl ?_
    refine ge_iast DX3_addRule_17 (is3_8 hk0) (al3_8 hk0) (fun m1 => ?_)
    refine ge_aload_n 0 DX3_addRule_18 rfl ?_
    refine ge_getR (i := (k0 + 3)) DX3_addRule_19 fl_X3_37 hk0 (by decide) rfl ?_
    refine ge_aload_n 0 DX3_addRule_22 rfl ?_
    refine ge_getI DX3_addRule_23 fl_X3_46 hk0 (by decide) rfl ?_
    refine ge_iload_n 2 DX3_addRule_26 rfl ?_
    refine ge_iast DX3_addRule_27 (is3_7 hk0) (al3_7 hk0) (fun m2 => ?_)
    refine ge_aload_n 0 DX3_addRule_28 rfl ?_
    refine ge_getR (i := (k0 + 5)) DX3_addRule_29 fl_X3_43 hk0 (by decide) rfl ?_
    refine ge_aload_n 0 DX3_addRule_32 rfl ?_
    refine ge_getI DX3_addRule_33 fl_X3_46 hk0 (by decide) rfl ?_
    refine ge_iload_n 3 DX3_addRule_36 rfl ?_
    refine ge_iast DX3_addRule_37 (is3_9 hk0) (al3_9 hk0) (fun m3 => ?_)
    refine ge_aload_n 0 DX3_addRule_38 rfl ?_
    refine ge_dup DX3_addRule_39 rfl ?_
    refine ge_getI DX3_addRule_40 fl_X3_46 hk0 (by decide) rfl ?_
    refine ge_iconst (v := (1 : Int32)) DX3_addRule_43 rfl ?_
    refine ge_iadd DX3_addRule_44 ?_
    refine ge_put DX3_addRule_45 fp_X3_46 hk0 (by decide) rfl (fun m4 => ?_)
    exact ge_vret rfl DX3_addRule_48
  · exact ge_vret rfl DX3_addRule_48
abbrev gX3_fieldAt (K : Kt) (X : Xt) := GE (R := Nat) K rmX3_fieldAt X cX3_fieldAt 2 RX3 (some (.object "DecoderForge$Field")) (finM K X (ιR X) 0 0)
set_option maxHeartbeats 4000000 in
set_option maxRecDepth 100000 in
theorem okX3_fieldAt (l : Launch) (X : Xt) (k0 : Nat) (hk0 : Is 3 k0) (m0 : Mem) (a1 : Int32) : Ct l yX3_fieldAt cX3_fieldAt 2 (some (.object "DecoderForge$Field")) rmX3_fieldAt (ιR X) X [.ref (xad X k0), .int a1] m0 (fX3_fieldAt k0 m0 a1) := by
  refine ct_of (own := RX3) (ls := [(0, .ref (xad X k0)), (1, .int a1)]) (by decide) rfl rfl (Nat.le_of_ble_eq_true rfl) (fun K => ?_)
  show gX3_fieldAt K X 0 0 0 [(0, .ref (xad X k0)), (1, .int a1)] [] m0 (fX3_fieldAt k0 m0 a1)
  delta fX3_fieldAt
  refine ge_aload_n 0 DX3_fieldAt_0 rfl ?_
  refine ge_getR (i := (k0 + 1)) DX3_fieldAt_1 fl_X3_26 hk0 (by decide) rfl ?_
  refine ge_aload_n 0 DX3_fieldAt_4 rfl ?_
  refine ge_getR (i := (k0 + 2)) DX3_fieldAt_5 fl_X3_30 hk0 (by decide) rfl ?_
  refine ge_iload_n 1 DX3_fieldAt_8 rfl ?_
  refine ge_iald DX3_fieldAt_9 (is3_5 hk0) (al3_5 hk0) ?_
  refine ge_aaldD DX3_fieldAt_10 (is3_4 hk0) (fun hb1 => ?_)
  exact ge_aret rfl (Or.inl ⟨_, rfl⟩) DX3_fieldAt_11
abbrev gX3_placeOf (K : Kt) (X : Xt) := GE (R := Int32) K rmX3_placeOf X cX3_placeOf 3 RX3 (some .int) (finM K X ιI 0 0)
set_option maxHeartbeats 4000000 in
set_option maxRecDepth 100000 in
theorem lX3_placeOf_L2 (K : Kt) (X : Xt) {k20 : Int32 → Option (Int32 × Mem)} {k28 : Option (Int32 × Mem)} (m1 : Mem) (q2 : Nat) (y3 : Int32) (hq2 : Is 3 q2) (hk20 : ∀ (x5 : Int32), gX3_placeOf K X 0 0 20 [(2, .int x5)] [] m1 (k20 x5)) (hk28 : gX3_placeOf K X 0 0 28 [] [] m1 (k28)) :
    ∀ (n : Nat) (x4 : Int32), gX3_placeOf K X 0 0 2 [(0, .ref (xad X q2)), (1, .int y3), (2, .int x4)] [] m1 (fX3_placeOf_L2 k20 k28 m1 q2 y3 n x4) := by
  intro n
  induction n with
  | zero => intro x4; exact ge_none
  | succ n ih =>
    intro x4
    show gX3_placeOf K X 0 0 2 [(0, .ref (xad X q2)), (1, .int y3), (2, .int x4)] [] m1 (fX3_placeOf_L2_b k20 k28 m1 q2 y3 (fX3_placeOf_L2 k20 k28 m1 q2 y3 n) x4)
    delta fX3_placeOf_L2_b
    refine ge_iload_n 2 DX3_placeOf_2 rfl ?_
    refine ge_aload_n 0 DX3_placeOf_3 rfl ?_
    refine ge_getI DX3_placeOf_4 fl_X3_34 hq2 (by decide) rfl ?_
    refine ge_icmp_ge (tgt := 28) DX3_placeOf_7 (by decide) ?_ ?_
    · refine ge_aload_n 0 DX3_placeOf_10 rfl ?_
      refine ge_getR (i := (q2 + 2)) DX3_placeOf_11 fl_X3_30 hq2 (by decide) rfl ?_
      refine ge_iload_n 2 DX3_placeOf_14 rfl ?_
      refine ge_iald DX3_placeOf_15 (is3_5 hq2) (al3_5 hq2) ?_
      refine ge_iload_n 1 DX3_placeOf_16 rfl ?_
      refine ge_icmp_ne (tgt := 22) DX3_placeOf_17 (by decide) ?_ ?_
      · refine ge_sub [2] rfl ?_
        exact hk20 x4
      · refine ge_iinc 2 (v := (x4 + (1 : Int32))) (ls' := [(2, .int (x4 + (1 : Int32))), (0, .ref (xad X q2)), (1, .int y3)]) DX3_placeOf_22 rfl rfl (by decide) rfl ?_
        refine ge_goto (tgt := 2) DX3_placeOf_25 (by decide) ?_
        refine ge_sub [1, 2, 0] rfl ?_
        exact ih (x4 + (1 : Int32))
    · refine ge_sub [] rfl ?_
      exact hk28
set_option maxHeartbeats 4000000 in
set_option maxRecDepth 100000 in
theorem okX3_placeOf (l : Launch) (X : Xt) (k0 : Nat) (hk0 : Is 3 k0) (m0 : Mem) (a1 : Int32) : Ct l yX3_placeOf cX3_placeOf 3 (some .int) rmX3_placeOf ιI X [.ref (xad X k0), .int a1] m0 (fX3_placeOf k0 m0 a1) := by
  refine ct_of (own := RX3) (ls := [(0, .ref (xad X k0)), (1, .int a1)]) (by decide) rfl rfl (Nat.le_of_ble_eq_true rfl) (fun K => ?_)
  show gX3_placeOf K X 0 0 0 [(0, .ref (xad X k0)), (1, .int a1)] [] m0 (fX3_placeOf k0 m0 a1)
  delta fX3_placeOf
  refine ge_iconst (v := (0 : Int32)) DX3_placeOf_0 rfl ?_
  refine ge_istore_n (ls' := [(2, .int (0 : Int32)), (0, .ref (xad X k0)), (1, .int a1)]) DX3_placeOf_1 (by decide) rfl ?_
  refine ge_sub [1, 2, 0] rfl ?_
  refine lX3_placeOf_L2 K X m0 k0 a1 hk0 (fun x6 => ?_) ?_ 5000 (0 : Int32)
  · refine ge_iload_n 0 DX3_placeOf_20 rfl ?_
    exact ge_iret rfl DX3_placeOf_21
  · refine ge_iconst (v := (-1 : Int32)) DX3_placeOf_28 rfl ?_
    exact ge_iret rfl DX3_placeOf_29
abbrev gX3_isOver (K : Kt) (X : Xt) := GE (R := Int32) K rmX3_isOver X cX3_isOver 3 RX3 (some .boolean) (finM K X ιI 0 0)
set_option maxHeartbeats 4000000 in
set_option maxRecDepth 100000 in
theorem okX3_isOver (l : Launch) (X : Xt) (k0 : Nat) (hk0 : Is 3 k0) (m0 : Mem) (a1 : Nat) (ha1 : Is 3 a1) : Ct l yX3_isOver cX3_isOver 3 (some .boolean) rmX3_isOver ιI X [.ref (xad X k0), .ref (xad X a1)] m0 (fX3_isOver k0 m0 a1) := by
  refine ct_of (own := RX3) (ls := [(0, .ref (xad X k0)), (1, .ref (xad X a1))]) (by decide) rfl rfl (Nat.le_of_ble_eq_true rfl) (fun K => ?_)
  show gX3_isOver K X 0 0 0 [(0, .ref (xad X k0)), (1, .ref (xad X a1))] [] m0 (fX3_isOver k0 m0 a1)
  delta fX3_isOver
  refine ge_aload_n 0 DX3_isOver_0 rfl ?_
  refine ge_getI DX3_isOver_1 fl_X3_18 hk0 (by decide) rfl ?_
  refine ge_aload_n 1 DX3_isOver_4 rfl ?_
  refine ge_getI DX3_isOver_5 fl_X3_18 ha1 (by decide) rfl ?_
  refine ge_iand DX3_isOver_8 ?_
  refine ge_aload_n 1 DX3_isOver_9 rfl ?_
  refine ge_getI DX3_isOver_10 fl_X3_18 ha1 (by decide) rfl ?_
  refine ge_jn (P := fun k => ∀ (v1 : Int32), gX3_isOver K X 0 0 32 [(0, .ref (xad X k0)), (1, .ref (xad X a1))] [.int v1] m0 (k v1)) (fun v1 => ?_) (fun j32 hj32 => ?_)
  · refine ge_istore_n (ls' := [(2, .int v1), (0, .ref (xad X k0)), (1, .ref (xad X a1))]) DX3_isOver_32 (by decide) rfl ?_
    refine ge_iload_n 0 DX3_isOver_33 rfl ?_
    refine ge_if_eq (tgt := 57) DX3_isOver_34 (by decide) ?_ ?_
    · refine ge_iconst (v := (0 : Int32)) DX3_isOver_57 rfl ?_
      exact ge_zretc rfl rfl DX3_isOver_58
    · refine ge_aload_n 1 DX3_isOver_37 rfl ?_
      refine ge_getI DX3_isOver_38 fl_X3_21 hk0 (by decide) rfl ?_
      refine ge_aload_n 2 DX3_isOver_41 rfl ?_
      refine ge_getI DX3_isOver_42 fl_X3_18 ha1 (by decide) rfl ?_
      refine ge_iand DX3_isOver_45 ?_
      refine ge_aload_n 2 DX3_isOver_46 rfl ?_
      refine ge_getI DX3_isOver_47 fl_X3_21 ha1 (by decide) rfl ?_
      refine ge_icmp_ne (tgt := 57) DX3_isOver_50 (by decide) ?_ ?_
      · refine ge_iconst (v := (1 : Int32)) DX3_isOver_53 rfl ?_
        refine ge_goto (tgt := 58) DX3_isOver_54 (by decide) ?_
        exact ge_zretc rfl rfl DX3_isOver_58
      · refine ge_iconst (v := (0 : Int32)) DX3_isOver_57 rfl ?_
        exact ge_zretc rfl rfl DX3_isOver_58
  refine ge_jn (P := fun k => gX3_isOver K X 0 0 31 [(0, .ref (xad X k0)), (1, .ref (xad X a1))] [] m0 k) ?_ (fun j31 hj31 => ?_)
  · refine ge_iconst (v := (0 : Int32)) DX3_isOver_31 rfl ?_
    exact hj32 (0 : Int32)
  refine ge_icmp_ne (tgt := 31) DX3_isOver_13 (by decide) ?_ ?_
  · refine ge_aload_n 0 DX3_isOver_16 rfl ?_
    refine ge_getI DX3_isOver_17 fl_X3_18 hk0 (by decide) rfl ?_
    refine ge_aload_n 1 DX3_isOver_20 rfl ?_
    refine ge_getI DX3_isOver_21 fl_X3_18 ha1 (by decide) rfl ?_
    refine ge_icmp_eq (tgt := 31) DX3_isOver_24 (by decide) ?_ ?_
    · exact hj31
    · refine ge_iconst (v := (1 : Int32)) DX3_isOver_27 rfl ?_
      refine ge_goto (tgt := 32) DX3_isOver_28 (by decide) ?_
      exact hj32 (1 : Int32)
  · exact hj31
abbrev gX3_isTwinOf (K : Kt) (X : Xt) := GE (R := Int32) K rmX3_isTwinOf X cX3_isTwinOf 2 RX3 (some .boolean) (finM K X ιI 0 0)
set_option maxHeartbeats 4000000 in
set_option maxRecDepth 100000 in
theorem okX3_isTwinOf (l : Launch) (X : Xt) (k0 : Nat) (hk0 : Is 3 k0) (m0 : Mem) (a1 : Nat) (ha1 : Is 3 a1) : Ct l yX3_isTwinOf cX3_isTwinOf 2 (some .boolean) rmX3_isTwinOf ιI X [.ref (xad X k0), .ref (xad X a1)] m0 (fX3_isTwinOf k0 m0 a1) := by
  refine ct_of (own := RX3) (ls := [(0, .ref (xad X k0)), (1, .ref (xad X a1))]) (by decide) rfl rfl (Nat.le_of_ble_eq_true rfl) (fun K => ?_)
  show gX3_isTwinOf K X 0 0 0 [(0, .ref (xad X k0)), (1, .ref (xad X a1))] [] m0 (fX3_isTwinOf k0 m0 a1)
  delta fX3_isTwinOf
  refine ge_aload_n 0 DX3_isTwinOf_0 rfl ?_
  refine ge_getI DX3_isTwinOf_1 fl_X3_18 hk0 (by decide) rfl ?_
  refine ge_aload_n 1 DX3_isTwinOf_4 rfl ?_
  refine ge_getI DX3_isTwinOf_5 fl_X3_18 ha1 (by decide) rfl ?_
  refine ge_icmp_ne (tgt := 26) DX3_isTwinOf_8 (by decide) ?_ ?_
  · refine ge_aload_n 0 DX3_isTwinOf_11 rfl ?_
    refine ge_getI DX3_isTwinOf_12 fl_X3_21 hk0 (by decide) rfl ?_
    refine ge_aload_n 1 DX3_isTwinOf_15 rfl ?_
    refine ge_getI DX3_isTwinOf_16 fl_X3_21 ha1 (by decide) rfl ?_
    refine ge_icmp_ne (tgt := 26) DX3_isTwinOf_19 (by decide) ?_ ?_
    · refine ge_iconst (v := (1 : Int32)) DX3_isTwinOf_22 rfl ?_
      refine ge_goto (tgt := 27) DX3_isTwinOf_23 (by decide) ?_
      exact ge_zretc rfl rfl DX3_isTwinOf_27
    · refine ge_iconst (v := (0 : Int32)) DX3_isTwinOf_26 rfl ?_
      exact ge_zretc rfl rfl DX3_isTwinOf_27
  · refine ge_iconst (v := (0 : Int32)) DX3_isTwinOf_26 rfl ?_
    exact ge_zretc rfl rfl DX3_isTwinOf_27
abbrev gX3_holdsIn (K : Kt) (X : Xt) := GE (R := Int32) K rmX3_holdsIn X cX3_holdsIn 5 RX3 (some .boolean) (finM K X ιI 0 0)
set_option maxHeartbeats 4000000 in
set_option maxRecDepth 100000 in
theorem okX3_holdsIn (l : Launch) (X : Xt) (k0 : Nat) (hk0 : Is 3 k0) (m0 : Mem) (a1 : Int32) (a2 : Int32) : Ct l yX3_holdsIn cX3_holdsIn 5 (some .boolean) rmX3_holdsIn ιI X [.ref (xad X k0), .int a1, .int a2] m0 (fX3_holdsIn k0 m0 a1 a2) := by
  refine ct_of (own := RX3) (ls := [(0, .ref (xad X k0)), (1, .int a1), (2, .int a2)]) (by decide) rfl rfl (Nat.le_of_ble_eq_true rfl) (fun K => ?_)
  show gX3_holdsIn K X 0 0 0 [(0, .ref (xad X k0)), (1, .int a1), (2, .int a2)] [] m0 (fX3_holdsIn k0 m0 a1 a2)
  delta fX3_holdsIn
  refine ge_aload_n 0 DX3_holdsIn_0 rfl ?_
  refine ge_getR (i := (k0 + 1)) DX3_holdsIn_1 fl_X3_26 hk0 (by decide) rfl ?_
  refine ge_aload_n 0 DX3_holdsIn_4 rfl ?_
  refine ge_getR (i := (k0 + 4)) DX3_holdsIn_5 fl_X3_40 hk0 (by decide) rfl ?_
  refine ge_iload_n 2 DX3_holdsIn_8 rfl ?_
  refine ge_iald DX3_holdsIn_9 (is3_8 hk0) (al3_8 hk0) ?_
  refine ge_aaldD DX3_holdsIn_10 (is3_4 hk0) (fun hb1 => ?_)
  refine ge_iload_n 1 DX3_holdsIn_11 rfl ?_
  refine ge_callVi0 (st := []) cm_X3_70 DX3_holdsIn_12 (isD (is3_4 hk0) hb1) rfl (okX2_numberIn (kl K) X ((k0 + 1) + 5 + 2 * ix (m0 (k0 + 4) (ix a2))) (isD (is3_4 hk0) hb1) m0 a1) rfl rfl (Nat.le_of_ble_eq_true rfl) (by decide) ⟨rfl, rfl⟩ ⟨Nat.zero_le _, Nat.zero_le _⟩ (fun r3 m2 => ?_)
  refine ge_istore_n (ls' := [(3, .int r3), (0, .ref (xad X k0)), (1, .int a1), (2, .int a2)]) DX3_holdsIn_15 (by decide) rfl ?_
  refine ge_aload_n 1 DX3_holdsIn_16 rfl ?_
  refine ge_getR (i := (k0 + 5)) DX3_holdsIn_17 fl_X3_43 hk0 (by decide) rfl ?_
  refine ge_iload_n 3 DX3_holdsIn_20 rfl ?_
  refine ge_iald DX3_holdsIn_21 (is3_9 hk0) (al3_9 hk0) ?_
  refine ge_topi (fun x4 => ?_)
  refine ge_istore (ls' := [(4, .int x4), (3, .int r3), (0, .ref (xad X k0)), (1, .int a1), (2, .int a2)]) DX3_holdsIn_22 (by decide) rfl ?_
  refine ge_aload_n 2 DX3_holdsIn_24 rfl ?_
  refine ge_getR (i := (k0 + 3)) DX3_holdsIn_25 fl_X3_37 hk0 (by decide) rfl ?_
  refine ge_iload_n 4 DX3_holdsIn_28 rfl ?_
  refine ge_iald DX3_holdsIn_29 (is3_7 hk0) (al3_7 hk0) ?_
  refine ge_ite (fun hx5 => ?_) (fun hx5 => ?_)
  · rw [hx5]
    refine ge_lsw (tgt := 56) DX3_holdsIn_30 rfl rfl (by decide) ?_
    refine ge_iload_n 1 DX3_holdsIn_56 rfl ?_
    refine ge_iload 0 DX3_holdsIn_57 rfl ?_
    refine ge_icmp_eq (tgt := 66) DX3_holdsIn_59 (by decide) ?_ ?_
    · refine ge_iconst (v := (0 : Int32)) DX3_holdsIn_66 rfl ?_
      exact ge_zretc rfl rfl DX3_holdsIn_67
    · refine ge_iconst (v := (1 : Int32)) DX3_holdsIn_62 rfl ?_
      refine ge_goto (tgt := 67) DX3_holdsIn_63 (by decide) ?_
      exact ge_zretc rfl rfl DX3_holdsIn_67
  refine ge_ite (fun hx6 => ?_) (fun hx6 => ?_)
  · rw [hx6]
    refine ge_lsw (tgt := 68) DX3_holdsIn_30 rfl rfl (by decide) ?_
    refine ge_iload 0 DX3_holdsIn_68 rfl ?_
    refine ge_if_le (tgt := 84) DX3_holdsIn_70 (by decide) ?_ ?_
    · refine ge_iload_n 1 DX3_holdsIn_73 rfl ?_
      refine ge_iload 0 DX3_holdsIn_74 rfl ?_
      refine ge_irem DX3_holdsIn_76 ?_
      refine ge_if_ne (tgt := 84) DX3_holdsIn_77 (by decide) ?_ ?_
      · refine ge_iconst (v := (1 : Int32)) DX3_holdsIn_80 rfl ?_
        refine ge_goto (tgt := 85) DX3_holdsIn_81 (by decide) ?_
        exact ge_zretc rfl rfl DX3_holdsIn_85
      · refine ge_iconst (v := (0 : Int32)) DX3_holdsIn_84 rfl ?_
        exact ge_zretc rfl rfl DX3_holdsIn_85
    · refine ge_iconst (v := (0 : Int32)) DX3_holdsIn_84 rfl ?_
      exact ge_zretc rfl rfl DX3_holdsIn_85
  refine ge_lsw (tgt := 86) DX3_holdsIn_30 rfl (lsw_out2 hx5 hx6) (by decide) ?_
  refine ge_iload 0 DX3_holdsIn_86 rfl ?_
  refine ge_if_lt (tgt := 117) DX3_holdsIn_88 (by decide) ?_ ?_
  · refine ge_iconst (v := (0 : Int32)) DX3_holdsIn_117 rfl ?_
    exact ge_zretc rfl rfl DX3_holdsIn_118
  · refine ge_iload 0 DX3_holdsIn_91 rfl ?_
    refine ge_bipush (v := (8 : Int32)) DX3_holdsIn_93 rfl ?_
    refine ge_icmp_ge (tgt := 117) DX3_holdsIn_95 (by decide) ?_ ?_
    · refine ge_iload_n 1 DX3_holdsIn_98 rfl ?_
      refine ge_aload_n 2 DX3_holdsIn_99 rfl ?_
      refine ge_getR (i := (k0 + 1)) DX3_holdsIn_100 fl_X3_26 hk0 (by decide) rfl ?_
      refine ge_iload 0 DX3_holdsIn_103 rfl ?_
      refine ge_aaldD DX3_holdsIn_105 (is3_4 hk0) (fun hb7 => ?_)
      refine ge_iload_n 3 DX3_holdsIn_106 rfl ?_
      refine ge_callVi0 (st := [.int r3]) cm_X3_70 DX3_holdsIn_107 (isD (is3_4 hk0) hb7) rfl (okX2_numberIn (kl K) X ((k0 + 1) + 5 + 2 * ix x4) (isD (is3_4 hk0) hb7) m2 a1) rfl rfl (Nat.le_of_ble_eq_true rfl) (by decide) ⟨rfl, rfl⟩ ⟨Nat.zero_le _, Nat.zero_le _⟩ (fun r9 m8 => ?_)
      refine ge_icmp_ge (tgt := 117) DX3_holdsIn_110 (by decide) ?_ ?_
      · refine ge_iconst (v := (1 : Int32)) DX3_holdsIn_113 rfl ?_
        refine ge_goto (tgt := 118) DX3_holdsIn_114 (by decide) ?_
        exact ge_zretc rfl rfl DX3_holdsIn_118
      · refine ge_iconst (v := (0 : Int32)) DX3_holdsIn_117 rfl ?_
        exact ge_zretc rfl rfl DX3_holdsIn_118
    · refine ge_iconst (v := (0 : Int32)) DX3_holdsIn_117 rfl ?_
      exact ge_zretc rfl rfl DX3_holdsIn_118
abbrev gX3_doesFit (K : Kt) (X : Xt) := GE (R := Int32) K rmX3_doesFit X cX3_doesFit 3 RX3 (some .boolean) (finM K X ιI 0 0)
set_option maxHeartbeats 4000000 in
set_option maxRecDepth 100000 in
theorem lX3_doesFit_L17 (K : Kt) (X : Xt) {k34 : Mem → Option (Int32 × Mem)} {k42 : Mem → Option (Int32 × Mem)} (q2 : Nat) (y3 : Int32) (hq2 : Is 3 q2) (hk34 : ∀ (m5 : Mem), gX3_doesFit K X 0 0 34 [] [] m5 (k34 m5)) (hk42 : ∀ (m7 : Mem), gX3_doesFit K X 0 0 42 [] [] m7 (k42 m7)) :
    ∀ (n : Nat) (m1 : Mem) (x4 : Int32), gX3_doesFit K X 0 0 17 [(0, .ref (xad X q2)), (1, .int y3), (2, .int x4)] [] m1 (fX3_doesFit_L17 k34 k42 q2 y3 n m1 x4) := by
  intro n
  induction n with
  | zero => intro m1 x4; exact ge_none
  | succ n ih =>
    intro m1 x4
    show gX3_doesFit K X 0 0 17 [(0, .ref (xad X q2)), (1, .int y3), (2, .int x4)] [] m1 (fX3_doesFit_L17_b k34 k42 q2 y3 (fX3_doesFit_L17 k34 k42 q2 y3 n) m1 x4)
    delta fX3_doesFit_L17_b
    refine ge_iload_n 2 DX3_doesFit_17 rfl ?_
    refine ge_aload_n 0 DX3_doesFit_18 rfl ?_
    refine ge_getI DX3_doesFit_19 fl_X3_46 hq2 (by decide) rfl ?_
    refine ge_icmp_ge (tgt := 42) DX3_doesFit_22 (by decide) ?_ ?_
    · refine ge_aload_n 0 DX3_doesFit_25 rfl ?_
      refine ge_iload_n 1 DX3_doesFit_26 rfl ?_
      refine ge_iload_n 2 DX3_doesFit_27 rfl ?_
      refine ge_callVi0 (st := []) cm_X3_66 DX3_doesFit_28 hq2 rfl (okX3_holdsIn (kl K) X q2 hq2 m1 y3 x4) rfl rfl (Nat.le_of_ble_eq_true rfl) (by decide) ⟨rfl, rfl⟩ ⟨Nat.zero_le _, Nat.zero_le _⟩ (fun r10 m9 => ?_)
      refine ge_if_ne (tgt := 36) DX3_doesFit_31 (by decide) ?_ ?_
      · refine ge_sub [] rfl ?_
        exact hk34 m9
      · refine ge_iinc 2 (v := (x4 + (1 : Int32))) (ls' := [(2, .int (x4 + (1 : Int32))), (0, .ref (xad X q2)), (1, .int y3)]) DX3_doesFit_36 rfl rfl (by decide) rfl ?_
        refine ge_goto (tgt := 17) DX3_doesFit_39 (by decide) ?_
        refine ge_sub [1, 2, 0] rfl ?_
        exact ih m9 (x4 + (1 : Int32))
    · refine ge_sub [] rfl ?_
      exact hk42 m1
set_option maxHeartbeats 4000000 in
set_option maxRecDepth 100000 in
theorem okX3_doesFit (l : Launch) (X : Xt) (k0 : Nat) (hk0 : Is 3 k0) (m0 : Mem) (a1 : Int32) : Ct l yX3_doesFit cX3_doesFit 3 (some .boolean) rmX3_doesFit ιI X [.ref (xad X k0), .int a1] m0 (fX3_doesFit k0 m0 a1) := by
  refine ct_of (own := RX3) (ls := [(0, .ref (xad X k0)), (1, .int a1)]) (by decide) rfl rfl (Nat.le_of_ble_eq_true rfl) (fun K => ?_)
  show gX3_doesFit K X 0 0 0 [(0, .ref (xad X k0)), (1, .int a1)] [] m0 (fX3_doesFit k0 m0 a1)
  delta fX3_doesFit
  refine ge_iload_n 1 DX3_doesFit_0 rfl ?_
  refine ge_aload_n 0 DX3_doesFit_1 rfl ?_
  refine ge_getI DX3_doesFit_2 fl_X3_18 hk0 (by decide) rfl ?_
  refine ge_iand DX3_doesFit_5 ?_
  refine ge_aload_n 0 DX3_doesFit_6 rfl ?_
  refine ge_getI DX3_doesFit_7 fl_X3_21 hk0 (by decide) rfl ?_
  refine ge_icmp_eq (tgt := 15) DX3_doesFit_10 (by decide) ?_ ?_
  · refine ge_iconst (v := (0 : Int32)) DX3_doesFit_15 rfl ?_
    refine ge_istore_n (ls' := [(2, .int (0 : Int32)), (0, .ref (xad X k0)), (1, .int a1)]) DX3_doesFit_16 (by decide) rfl ?_
    refine ge_sub [1, 2, 0] rfl ?_
    refine lX3_doesFit_L17 K X k0 a1 hk0 (fun m6 => ?_) (fun m8 => ?_) 5000 m0 (0 : Int32)
    · refine ge_iconst (v := (0 : Int32)) DX3_doesFit_34 rfl ?_
      exact ge_zretc rfl rfl DX3_doesFit_35
    · refine ge_iconst (v := (1 : Int32)) DX3_doesFit_42 rfl ?_
      exact ge_zretc rfl rfl DX3_doesFit_43
  · refine ge_iconst (v := (0 : Int32)) DX3_doesFit_13 rfl ?_
    exact ge_zretc rfl rfl DX3_doesFit_14
abbrev gX3_madeOf (K : Kt) (X : Xt) := GE (R := Int32) K rmX3_madeOf X cX3_madeOf 6 RX3 (some .int) (finM K X ιI 0 0)
set_option maxHeartbeats 4000000 in
set_option maxRecDepth 100000 in
theorem lX3_madeOf_L7 (K : Kt) (X : Xt) {k55 : Mem → Option (Int32 × Mem)} {k77 : Mem → Int32 → Option (Int32 × Mem)} (q3 : Nat) (q4 : Nat) (hq3 : Is 3 q3) (hq4 : Is 12 q4) (hk55 : ∀ (m7 : Mem), gX3_madeOf K X 0 0 55 [] [] m7 (k55 m7)) (hk77 : ∀ (m9 : Mem) (x10 : Int32), gX3_madeOf K X 0 0 77 [(2, .int x10)] [] m9 (k77 m9 x10)) :
    ∀ (n : Nat) (m2 : Mem) (x5 : Int32) (x6 : Int32), gX3_madeOf K X 0 0 7 [(0, .ref (xad X q3)), (1, .ref (xad X q4)), (2, .int x5), (3, .int x6)] [] m2 (fX3_madeOf_L7 k55 k77 q3 q4 n m2 x5 x6) := by
  intro n
  induction n with
  | zero => intro m2 x5 x6; exact ge_none
  | succ n ih =>
    intro m2 x5 x6
    show gX3_madeOf K X 0 0 7 [(0, .ref (xad X q3)), (1, .ref (xad X q4)), (2, .int x5), (3, .int x6)] [] m2 (fX3_madeOf_L7_b k55 k77 q3 q4 (fX3_madeOf_L7 k55 k77 q3 q4 n) m2 x5 x6)
    delta fX3_madeOf_L7_b
    refine ge_iload_n 3 DX3_madeOf_7 rfl ?_
    refine ge_aload_n 0 DX3_madeOf_8 rfl ?_
    refine ge_getI DX3_madeOf_9 fl_X3_34 hq3 (by decide) rfl ?_
    refine ge_icmp_ge (tgt := 77) DX3_madeOf_12 (by decide) ?_ ?_
    · refine ge_aload_n 0 DX3_madeOf_15 rfl ?_
      refine ge_getR (i := (q3 + 2)) DX3_madeOf_16 fl_X3_30 hq3 (by decide) rfl ?_
      refine ge_iload_n 3 DX3_madeOf_19 rfl ?_
      refine ge_iald DX3_madeOf_20 (is3_5 hq3) (al3_5 hq3) ?_
      refine ge_topi (fun x13 => ?_)
      refine ge_istore (ls' := [(4, .int x13), (0, .ref (xad X q3)), (1, .ref (xad X q4)), (2, .int x5), (3, .int x6)]) DX3_madeOf_21 (by decide) rfl ?_
      refine ge_iload 0 DX3_madeOf_23 rfl ?_
      refine ge_aload_n 2 DX3_madeOf_25 rfl ?_
      refine ge_alen DX3_madeOf_26 hq4 rfl ?_
      refine ge_jn (P := fun k => ∀ (v14 : Int32), gX3_madeOf K X 0 0 38 [(0, .ref (xad X q3)), (1, .ref (xad X q4)), (2, .int x5), (3, .int x6), (4, .int x13)] [.int v14] m2 (k v14)) (fun v14 => ?_) (fun j38 hj38 => ?_)
      · refine ge_istore (ls' := [(5, .int v14), (0, .ref (xad X q3)), (1, .ref (xad X q4)), (2, .int x5), (3, .int x6), (4, .int x13)]) DX3_madeOf_38 (by decide) rfl ?_
        refine ge_aload_n 1 DX3_madeOf_40 rfl ?_
        refine ge_getR (i := (q3 + 1)) DX3_madeOf_41 fl_X3_26 hq3 (by decide) rfl ?_
        refine ge_iload 5 DX3_madeOf_44 rfl ?_
        refine ge_aaldD DX3_madeOf_46 (is3_4 hq3) (fun hb15 => ?_)
        refine ge_iload 0 DX3_madeOf_47 rfl ?_
        refine ge_callVi0 (st := []) cm_X3_73 DX3_madeOf_49 (isD (is3_4 hq3) hb15) rfl (okX2_canHold (kl K) X ((q3 + 1) + 5 + 2 * ix x13) (isD (is3_4 hq3) hb15) m2 v14) rfl rfl (Nat.le_of_ble_eq_true rfl) (by decide) ⟨rfl, rfl⟩ ⟨Nat.zero_le _, Nat.zero_le _⟩ (fun r17 m16 => ?_)
        refine ge_if_ne (tgt := 57) DX3_madeOf_52 (by decide) ?_ ?_
        · refine ge_sub [] rfl ?_
          exact hk55 m16
        · refine ge_aload_n 1 DX3_madeOf_57 rfl ?_
          refine ge_getR (i := (q3 + 1)) DX3_madeOf_58 fl_X3_26 hq3 (by decide) rfl ?_
          refine ge_iload 5 DX3_madeOf_61 rfl ?_
          refine ge_aaldD DX3_madeOf_63 (is3_4 hq3) (fun hb18 => ?_)
          refine ge_iload_n 3 DX3_madeOf_64 rfl ?_
          refine ge_iload 0 DX3_madeOf_65 rfl ?_
          refine ge_callVi0 (st := []) cm_X3_76 DX3_madeOf_67 (isD (is3_4 hq3) hb18) rfl (okX2_putInto (kl K) X ((q3 + 1) + 5 + 2 * ix x13) (isD (is3_4 hq3) hb18) m16 x5 v14) rfl rfl (Nat.le_of_ble_eq_true rfl) (by decide) ⟨rfl, rfl⟩ ⟨Nat.zero_le _, Nat.zero_le _⟩ (fun r20 m19 => ?_)
          refine ge_istore_n (ls' := [(2, .int r20), (5, .int v14), (0, .ref (xad X q3)), (1, .ref (xad X q4)), (3, .int x6), (4, .int x13)]) DX3_madeOf_70 (by decide) rfl ?_
          refine ge_iinc 4 (v := (x6 + (1 : Int32))) (ls' := [(3, .int (x6 + (1 : Int32))), (2, .int r20), (5, .int v14), (0, .ref (xad X q3)), (1, .ref (xad X q4)), (4, .int x13)]) DX3_madeOf_71 rfl rfl (by decide) rfl ?_
          refine ge_goto (tgt := 7) DX3_madeOf_74 (by decide) ?_
          refine ge_sub [3, 4, 1, 0] rfl ?_
          exact ih m19 r20 (x6 + (1 : Int32))
      refine ge_icmp_ge (tgt := 37) DX3_madeOf_27 (by decide) ?_ ?_
      · refine ge_aload_n 2 DX3_madeOf_30 rfl ?_
        refine ge_iload 0 DX3_madeOf_31 rfl ?_
        refine ge_iald DX3_madeOf_33 hq4 rfl ?_
        refine ge_goto (tgt := 38) DX3_madeOf_34 (by decide) ?_
        refine ge_sub [1, 2, 3, 4, 0] rfl ?_
        exact hj38 (m2 q4 (ix x13))
      · refine ge_iconst (v := (0 : Int32)) DX3_madeOf_37 rfl ?_
        refine ge_sub [1, 2, 3, 4, 0] rfl ?_
        exact hj38 (0 : Int32)
    · refine ge_sub [2] rfl ?_
      exact hk77 m2 x5
set_option maxHeartbeats 4000000 in
set_option maxRecDepth 100000 in
theorem okX3_madeOf (l : Launch) (X : Xt) (k0 : Nat) (hk0 : Is 3 k0) (m0 : Mem) (a1 : Nat) (ha1 : Is 12 a1) : Ct l yX3_madeOf cX3_madeOf 6 (some .int) rmX3_madeOf ιI X [.ref (xad X k0), .ref (xad X a1)] m0 (fX3_madeOf k0 m0 a1) := by
  refine ct_of (own := RX3) (ls := [(0, .ref (xad X k0)), (1, .ref (xad X a1))]) (by decide) rfl rfl (Nat.le_of_ble_eq_true rfl) (fun K => ?_)
  show gX3_madeOf K X 0 0 0 [(0, .ref (xad X k0)), (1, .ref (xad X a1))] [] m0 (fX3_madeOf k0 m0 a1)
  delta fX3_madeOf
  refine ge_aload_n 0 DX3_madeOf_0 rfl ?_
  refine ge_getI DX3_madeOf_1 fl_X3_21 hk0 (by decide) rfl ?_
  refine ge_topi (fun x1 => ?_)
  refine ge_istore_n (ls' := [(2, .int x1), (0, .ref (xad X k0)), (1, .ref (xad X a1))]) DX3_madeOf_4 (by decide) rfl ?_
  refine ge_iconst (v := (0 : Int32)) DX3_madeOf_5 rfl ?_
  refine ge_istore_n (ls' := [(3, .int (0 : Int32)), (2, .int x1), (0, .ref (xad X k0)), (1, .ref (xad X a1))]) DX3_madeOf_6 (by decide) rfl ?_
  refine ge_sub [2, 3, 1, 0] rfl ?_
  refine lX3_madeOf_L7 K X k0 a1 hk0 ha1 (fun m8 => ?_) (fun m11 x12 => ?_) 5000 m0 x1 (0 : Int32)
  · refine ge_iconst (v := (-1 : Int32)) DX3_madeOf_55 rfl ?_
    exact ge_iret rfl DX3_madeOf_56
  · refine ge_iload_n 0 DX3_madeOf_77 rfl ?_
    exact ge_iret rfl DX3_madeOf_78
abbrev gX3_firstIn (K : Kt) (X : Xt) := GE (R := Int32) K rmX3_firstIn X cX3_firstIn 2 RX3 (some .int) (finM K X ιI 0 0)
set_option maxHeartbeats 4000000 in
set_option maxRecDepth 100000 in
theorem okX3_firstIn (l : Launch) (X : Xt) (k0 : Nat) (hk0 : Is 3 k0) (m0 : Mem) (a1 : Int32) : Ct l yX3_firstIn cX3_firstIn 2 (some .int) rmX3_firstIn ιI X [.ref (xad X k0), .int a1] m0 (fX3_firstIn k0 m0 a1) := by
  refine ct_of (own := RX3) (ls := [(0, .ref (xad X k0)), (1, .int a1)]) (by decide) rfl rfl (Nat.le_of_ble_eq_true rfl) (fun K => ?_)
  show gX3_firstIn K X 0 0 0 [(0, .ref (xad X k0)), (1, .int a1)] [] m0 (fX3_firstIn k0 m0 a1)
  delta fX3_firstIn
  refine ge_aload_n 0 DX3_firstIn_0 rfl ?_
  refine ge_getI DX3_firstIn_1 fl_X3_34 hk0 (by decide) rfl ?_
  refine ge_if_ne (tgt := 11) DX3_firstIn_4 (by decide) ?_ ?_
  · refine ge_iconst (v := (0 : Int32)) DX3_firstIn_7 rfl ?_
    refine ge_goto (tgt := 20) DX3_firstIn_8 (by decide) ?_
    exact ge_iret rfl DX3_firstIn_20
  · refine ge_aload_n 0 DX3_firstIn_11 rfl ?_
    refine ge_iconst (v := (0 : Int32)) DX3_firstIn_12 rfl ?_
    refine ge_callVr0 (st := []) cm_X3_80 DX3_firstIn_13 hk0 rfl (okX3_fieldAt (kl K) X k0 hk0 m0 (0 : Int32)) rfl rfl (Nat.le_of_ble_eq_true rfl) (by decide) ⟨rfl, rfl⟩ ⟨Nat.zero_le _, Nat.zero_le _⟩ (fun r2 m1 hr2 => ?_)
    refine ge_iload_n 1 DX3_firstIn_16 rfl ?_
    refine ge_callVi0 (st := []) cm_X3_70 DX3_firstIn_17 hr2 rfl (okX2_numberIn (kl K) X r2 hr2 m1 a1) rfl rfl (Nat.le_of_ble_eq_true rfl) (by decide) ⟨rfl, rfl⟩ ⟨Nat.zero_le _, Nat.zero_le _⟩ (fun r4 m3 => ?_)
    exact ge_iret rfl DX3_firstIn_20
abbrev gX3_costOf (K : Kt) (X : Xt) := GE (R := Int32) K rmX3_costOf X cX3_costOf 4 RX3 (some .int) (finM K X ιI 0 0)
set_option maxHeartbeats 4000000 in
set_option maxRecDepth 100000 in
theorem okX3_costOf (l : Launch) (X : Xt) (k0 : Nat) (hk0 : Is 3 k0) (m0 : Mem) (a1 : Int32) : Ct l yX3_costOf cX3_costOf 4 (some .int) rmX3_costOf ιI X [.ref (xad X k0), .int a1] m0 (fX3_costOf k0 m0 a1) := by
  refine ct_of (own := RX3) (ls := [(0, .ref (xad X k0)), (1, .int a1)]) (by decide) rfl rfl (Nat.le_of_ble_eq_true rfl) (fun K => ?_)
  show gX3_costOf K X 0 0 0 [(0, .ref (xad X k0)), (1, .int a1)] [] m0 (fX3_costOf k0 m0 a1)
  delta fX3_costOf
  refine ge_iconst (v := (1 : Int32)) DX3_costOf_0 rfl ?_
  refine ge_aload_n 0 DX3_costOf_1 rfl ?_
  refine ge_getI DX3_costOf_2 fl_X3_34 hk0 (by decide) rfl ?_
  refine ge_iadd DX3_costOf_5 ?_
  refine ge_topi (fun x1 => ?_)
  refine ge_istore_n (ls' := [(2, .int x1), (0, .ref (xad X k0)), (1, .int a1)]) DX3_costOf_6 (by decide) rfl ?_
  refine ge_iload_n 0 DX3_costOf_7 rfl ?_
  refine ge_iconst (v := (2 : Int32)) DX3_costOf_8 rfl ?_
  refine ge_iadd DX3_costOf_9 ?_
  refine ge_topi (fun x2 => ?_)
  refine ge_istore_n (ls' := [(3, .int x2), (2, .int x1), (0, .ref (xad X k0)), (1, .int a1)]) DX3_costOf_10 (by decide) rfl ?_
  refine ge_aload_n 2 DX3_costOf_11 rfl ?_
  refine ge_getI DX3_costOf_12 fl_X3_9 hk0 (by decide) rfl ?_
  refine ge_ite (fun hx3 => ?_) (fun hx3 => ?_)
  · refine ge_tsw (v := (1 : Int32)) (tgt := 52) DX3_costOf_15 hx3 (by decide) (by decide) rfl (by decide) ?_
    refine ge_iload_n 0 DX3_costOf_52 rfl ?_
    exact ge_iret rfl DX3_costOf_53
  refine ge_ite (fun hx4 => ?_) (fun hx4 => ?_)
  · refine ge_tsw (v := (2 : Int32)) (tgt := 54) DX3_costOf_15 hx4 (by decide) (by decide) rfl (by decide) ?_
    refine ge_iconst (v := (3 : Int32)) DX3_costOf_54 rfl ?_
    refine ge_iload_n 1 DX3_costOf_55 rfl ?_
    refine ge_imul DX3_costOf_56 ?_
    exact ge_iret rfl DX3_costOf_57
  refine ge_ite (fun hx5 => ?_) (fun hx5 => ?_)
  · refine ge_tsw (v := (3 : Int32)) (tgt := 58) DX3_costOf_15 hx5 (by decide) (by decide) rfl (by decide) ?_
    refine ge_iconst (v := (2 : Int32)) DX3_costOf_58 rfl ?_
    refine ge_iload_n 0 DX3_costOf_59 rfl ?_
    refine ge_imul DX3_costOf_60 ?_
    exact ge_iret rfl DX3_costOf_61
  refine ge_ite (fun hx6 => ?_) (fun hx6 => ?_)
  · refine ge_tsw (v := (4 : Int32)) (tgt := 62) DX3_costOf_15 hx6 (by decide) (by decide) rfl (by decide) ?_
    refine ge_iconst (v := (3 : Int32)) DX3_costOf_62 rfl ?_
    refine ge_iload_n 1 DX3_costOf_63 rfl ?_
    refine ge_imul DX3_costOf_64 ?_
    refine ge_iconst (v := (1 : Int32)) DX3_costOf_65 rfl ?_
    refine ge_isub DX3_costOf_66 ?_
    exact ge_iret rfl DX3_costOf_67
  refine ge_ite (fun hx7 => ?_) (fun hx7 => ?_)
  · refine ge_tsw (v := (5 : Int32)) (tgt := 68) DX3_costOf_15 hx7 (by decide) (by decide) rfl (by decide) ?_
    refine ge_bipush (v := (9 : Int32)) DX3_costOf_68 rfl ?_
    exact ge_iret rfl DX3_costOf_70
  refine ge_ite (fun hx8 => ?_) (fun hx8 => ?_)
  · refine ge_tsw (v := (6 : Int32)) (tgt := 71) DX3_costOf_15 hx8 (by decide) (by decide) rfl (by decide) ?_
    refine ge_iconst (v := (2 : Int32)) DX3_costOf_71 rfl ?_
    refine ge_iload_n 0 DX3_costOf_72 rfl ?_
    refine ge_imul DX3_costOf_73 ?_
    refine ge_aload_n 2 DX3_costOf_74 rfl ?_
    refine ge_iload_n 3 DX3_costOf_75 rfl ?_
    refine ge_callVi0 (st := [.int ((2 : Int32) * x2)]) cm_X3_84 DX3_costOf_76 hk0 rfl (okX3_firstIn (kl K) X k0 hk0 m0 a1) rfl rfl (Nat.le_of_ble_eq_true rfl) (by decide) ⟨rfl, rfl⟩ ⟨Nat.zero_le _, Nat.zero_le _⟩ (fun r10 m9 => ?_)
    refine ge_mabs (st := [.int ((2 : Int32) * x2)]) mm_X3_87 DX3_costOf_79 (by decide) (Nat.le_of_ble_eq_true rfl) ⟨Nat.zero_le _, Nat.zero_le _⟩ ?_
    refine ge_iadd DX3_costOf_82 ?_
    exact ge_iret rfl DX3_costOf_83
  refine ge_tswd (tgt := 84) DX3_costOf_15 (sw_out 1 6 rfl (by decide) (fun i hi => by rcases i with _ | _ | _ | _ | _ | _ | i <;> first | exact absurd hi (by omega) | assumption)) (by decide) ?_
  refine ge_iload_n 1 DX3_costOf_84 rfl ?_
  exact ge_iret rfl DX3_costOf_85
abbrev gX4_has (K : Kt) (X : Xt) := GE (R := Int32) K rmX4_has X cX4_has 2 RX4 (some .boolean) (finM K X ιI 0 0)
set_option maxHeartbeats 4000000 in
set_option maxRecDepth 100000 in
theorem okX4_has (l : Launch) (X : Xt) (m0 : Mem) (a1 : Int32) : Ct l yX4_has cX4_has 2 (some .boolean) rmX4_has ιI X [.ref (xad X 9), .int a1] m0 (fX4_has m0 a1) := by
  refine ct_of (own := RX4) (ls := [(0, .ref (xad X 9)), (1, .int a1)]) (by decide) rfl rfl (Nat.le_of_ble_eq_true rfl) (fun K => ?_)
  show gX4_has K X 0 0 0 [(0, .ref (xad X 9)), (1, .int a1)] [] m0 (fX4_has m0 a1)
  delta fX4_has
  refine ge_iload_n 1 DX4_has_0 rfl ?_
  refine ge_if_lt (tgt := 16) DX4_has_1 (by decide) ?_ ?_
  · refine ge_iconst (v := (0 : Int32)) DX4_has_16 rfl ?_
    exact ge_zretc rfl rfl DX4_has_17
  · refine ge_iload_n 1 DX4_has_4 rfl ?_
    refine ge_aload_n 0 DX4_has_5 rfl ?_
    refine ge_getI DX4_has_6 fl_X4_17 is_9 (by decide) rfl ?_
    refine ge_icmp_ge (tgt := 16) DX4_has_9 (by decide) ?_ ?_
    · refine ge_iconst (v := (1 : Int32)) DX4_has_12 rfl ?_
      refine ge_goto (tgt := 17) DX4_has_13 (by decide) ?_
      exact ge_zretc rfl rfl DX4_has_17
    · refine ge_iconst (v := (0 : Int32)) DX4_has_16 rfl ?_
      exact ge_zretc rfl rfl DX4_has_17
abbrev gX4_allOfThem (K : Kt) (X : Xt) := GE (R := Int32) K rmX4_allOfThem X cX4_allOfThem 1 RX4 (some .int) (finM K X ιI 0 0)
set_option maxHeartbeats 4000000 in
set_option maxRecDepth 100000 in
theorem okX4_allOfThem (l : Launch) (X : Xt) (m0 : Mem) : Ct l yX4_allOfThem cX4_allOfThem 1 (some .int) rmX4_allOfThem ιI X [.ref (xad X 9)] m0 (fX4_allOfThem m0) := by
  refine ct_of (own := RX4) (ls := [(0, .ref (xad X 9))]) (by decide) rfl rfl (Nat.le_of_ble_eq_true rfl) (fun K => ?_)
  show gX4_allOfThem K X 0 0 0 [(0, .ref (xad X 9))] [] m0 (fX4_allOfThem m0)
  delta fX4_allOfThem
  refine ge_iconst (v := (1 : Int32)) DX4_allOfThem_0 rfl ?_
  refine ge_aload_n 0 DX4_allOfThem_1 rfl ?_
  refine ge_getI DX4_allOfThem_2 fl_X4_17 is_9 (by decide) rfl ?_
  refine ge_ishl DX4_allOfThem_5 ?_
  refine ge_iconst (v := (1 : Int32)) DX4_allOfThem_6 rfl ?_
  refine ge_isub DX4_allOfThem_7 ?_
  exact ge_iret rfl DX4_allOfThem_8
abbrev gX4_find (K : Kt) (X : Xt) := GE (R := Int32) K rmX4_find X cX4_find 4 RX4 (some .int) (finM K X ιI 0 0)
set_option maxHeartbeats 4000000 in
set_option maxRecDepth 100000 in
theorem lX4_find_L2 (K : Kt) (X : Xt) {k26 : Int32 → Option (Int32 × Mem)} {k34 : Option (Int32 × Mem)} (m1 : Mem) (y2 : Int32) (y3 : Int32)  (hk26 : ∀ (x5 : Int32), gX4_find K X 0 0 26 [(3, .int x5)] [] m1 (k26 x5)) (hk34 : gX4_find K X 0 0 34 [] [] m1 (k34)) :
    ∀ (n : Nat) (x4 : Int32), gX4_find K X 0 0 2 [(0, .ref (xad X 9)), (1, .int y2), (2, .int y3), (3, .int x4)] [] m1 (fX4_find_L2 k26 k34 m1 y2 y3 n x4) := by
  intro n
  induction n with
  | zero => intro x4; exact ge_none
  | succ n ih =>
    intro x4
    show gX4_find K X 0 0 2 [(0, .ref (xad X 9)), (1, .int y2), (2, .int y3), (3, .int x4)] [] m1 (fX4_find_L2_b k26 k34 m1 y2 y3 (fX4_find_L2 k26 k34 m1 y2 y3 n) x4)
    delta fX4_find_L2_b
    refine ge_iload_n 3 DX4_find_2 rfl ?_
    refine ge_iload_n 2 DX4_find_3 rfl ?_
    refine ge_icmp_ge (tgt := 34) DX4_find_4 (by decide) ?_ ?_
    · refine ge_iload_n 3 DX4_find_7 rfl ?_
      refine ge_bipush (v := (12 : Int32)) DX4_find_8 rfl ?_
      refine ge_icmp_ge (tgt := 34) DX4_find_10 (by decide) ?_ ?_
      · refine ge_aload_n 0 DX4_find_13 rfl ?_
        refine ge_getR (i := 10) DX4_find_14 fl_X4_11 is_9 (by decide) rfl ?_
        refine ge_iload_n 3 DX4_find_17 rfl ?_
        refine ge_aaldF DX4_find_18 (fun hb7 => ?_)
        refine ge_getI DX4_find_19 fl_X4_22 (isF hb7) (by decide) rfl ?_
        refine ge_iload_n 1 DX4_find_22 rfl ?_
        refine ge_icmp_ne (tgt := 28) DX4_find_23 (by decide) ?_ ?_
        · refine ge_sub [3] rfl ?_
          exact hk26 x4
        · refine ge_iinc 3 (v := (x4 + (1 : Int32))) (ls' := [(3, .int (x4 + (1 : Int32))), (0, .ref (xad X 9)), (1, .int y2), (2, .int y3)]) DX4_find_28 rfl rfl (by decide) rfl ?_
          refine ge_goto (tgt := 2) DX4_find_31 (by decide) ?_
          refine ge_sub [1, 2, 3, 0] rfl ?_
          exact ih (x4 + (1 : Int32))
      · refine ge_sub [] rfl ?_
        exact hk34
    · refine ge_sub [] rfl ?_
      exact hk34
set_option maxHeartbeats 4000000 in
set_option maxRecDepth 100000 in
theorem okX4_find (l : Launch) (X : Xt) (m0 : Mem) (a1 : Int32) (a2 : Int32) : Ct l yX4_find cX4_find 4 (some .int) rmX4_find ιI X [.ref (xad X 9), .int a1, .int a2] m0 (fX4_find m0 a1 a2) := by
  refine ct_of (own := RX4) (ls := [(0, .ref (xad X 9)), (1, .int a1), (2, .int a2)]) (by decide) rfl rfl (Nat.le_of_ble_eq_true rfl) (fun K => ?_)
  show gX4_find K X 0 0 0 [(0, .ref (xad X 9)), (1, .int a1), (2, .int a2)] [] m0 (fX4_find m0 a1 a2)
  delta fX4_find
  refine ge_iconst (v := (0 : Int32)) DX4_find_0 rfl ?_
  refine ge_istore_n (ls' := [(3, .int (0 : Int32)), (0, .ref (xad X 9)), (1, .int a1), (2, .int a2)]) DX4_find_1 (by decide) rfl ?_
  refine ge_sub [1, 2, 3, 0] rfl ?_
  refine lX4_find_L2 K X m0 a1 a2 (fun x6 => ?_) ?_ 5000 (0 : Int32)
  · refine ge_iload_n 0 DX4_find_26 rfl ?_
    exact ge_iret rfl DX4_find_27
  · refine ge_iconst (v := (-1 : Int32)) DX4_find_34 rfl ?_
    exact ge_iret rfl DX4_find_35
abbrev gX4_twins (K : Kt) (X : Xt) := GE (R := Int32) K rmX4_twins X cX4_twins 4 RX4 (some .int) (finM K X ιI 0 0)
set_option maxHeartbeats 4000000 in
set_option maxRecDepth 100000 in
theorem lX4_twins_L16 (K : Kt) (X : Xt) {k51 : Mem → Int32 → Option (Int32 × Mem)} (y11 : Int32)  (hk51 : ∀ (m13 : Mem) (x14 : Int32), gX4_twins K X 0 0 51 [(0, .ref (xad X 9)), (1, .int x14), (2, .int y11)] [] m13 (k51 m13 x14)) :
    ∀ (n : Nat) (m9 : Mem) (x10 : Int32) (x12 : Int32), gX4_twins K X 0 0 16 [(0, .ref (xad X 9)), (1, .int x10), (2, .int y11), (3, .int x12)] [] m9 (fX4_twins_L16 k51 y11 n m9 x10 x12) := by
  intro n
  induction n with
  | zero => intro m9 x10 x12; exact ge_none
  | succ n ih =>
    intro m9 x10 x12
    show gX4_twins K X 0 0 16 [(0, .ref (xad X 9)), (1, .int x10), (2, .int y11), (3, .int x12)] [] m9 (fX4_twins_L16_b k51 y11 (fX4_twins_L16 k51 y11 n) m9 x10 x12)
    delta fX4_twins_L16_b
    refine ge_iload_n 3 DX4_twins_16 rfl ?_
    refine ge_aload_n 0 DX4_twins_17 rfl ?_
    refine ge_getI DX4_twins_18 fl_X4_17 is_9 (by decide) rfl ?_
    refine ge_icmp_ge (tgt := 51) DX4_twins_21 (by decide) ?_ ?_
    · refine ge_aload_n 0 DX4_twins_24 rfl ?_
      refine ge_getR (i := 10) DX4_twins_25 fl_X4_11 is_9 (by decide) rfl ?_
      refine ge_iload_n 2 DX4_twins_28 rfl ?_
      refine ge_aaldF DX4_twins_29 (fun hb17 => ?_)
      refine ge_aload_n 0 DX4_twins_30 rfl ?_
      refine ge_getR (i := 10) DX4_twins_31 fl_X4_11 is_9 (by decide) rfl ?_
      refine ge_iload_n 3 DX4_twins_34 rfl ?_
      refine ge_aaldF DX4_twins_35 (fun hb18 => ?_)
      refine ge_callVi0 (st := []) cm_X4_25 DX4_twins_36 (isF hb17) rfl (okX3_isTwinOf (kl K) X (11 + 22 * ix y11) (isF hb17) m9 (11 + 22 * ix x12) (isF hb18)) rfl rfl (Nat.le_of_ble_eq_true rfl) (by decide) ⟨rfl, rfl⟩ ⟨Nat.zero_le _, Nat.zero_le _⟩ (fun r20 m19 => ?_)
      refine ge_jn (P := fun k => ∀ (x21 : Int32), gX4_twins K X 0 0 45 [(0, .ref (xad X 9)), (1, .int x21), (2, .int y11), (3, .int x12)] [] m19 (k x21)) (fun x21 => ?_) (fun j45 hj45 => ?_)
      · refine ge_iinc 3 (v := (x12 + (1 : Int32))) (ls' := [(3, .int (x12 + (1 : Int32))), (0, .ref (xad X 9)), (1, .int x21), (2, .int y11)]) DX4_twins_45 rfl rfl (by decide) rfl ?_
        refine ge_goto (tgt := 16) DX4_twins_48 (by decide) ?_
        refine ge_sub [1, 2, 3, 0] rfl ?_
        exact ih m19 x21 (x12 + (1 : Int32))
      refine ge_if_eq (tgt := 45) DX4_twins_39 (by decide) ?_ ?_
      · exact hj45 x10
      · refine ge_iinc 1 (v := (x10 + (1 : Int32))) (ls' := [(1, .int (x10 + (1 : Int32))), (0, .ref (xad X 9)), (2, .int y11), (3, .int x12)]) DX4_twins_42 rfl rfl (by decide) rfl ?_
        refine ge_sub [1, 0, 2, 3] rfl ?_
        exact hj45 (x10 + (1 : Int32))
    · refine ge_sub [0, 1, 2] rfl ?_
      exact hk51 m9 x10
set_option maxHeartbeats 4000000 in
set_option maxRecDepth 100000 in
theorem lX4_twins_L4 (K : Kt) (X : Xt) {k57 : Mem → Int32 → Option (Int32 × Mem)}   (hk57 : ∀ (m4 : Mem) (x5 : Int32), gX4_twins K X 0 0 57 [(1, .int x5)] [] m4 (k57 m4 x5)) :
    ∀ (n : Nat) (m1 : Mem) (x2 : Int32) (x3 : Int32), gX4_twins K X 0 0 4 [(0, .ref (xad X 9)), (1, .int x2), (2, .int x3)] [] m1 (fX4_twins_L4 k57  n m1 x2 x3) := by
  intro n
  induction n with
  | zero => intro m1 x2 x3; exact ge_none
  | succ n ih =>
    intro m1 x2 x3
    show gX4_twins K X 0 0 4 [(0, .ref (xad X 9)), (1, .int x2), (2, .int x3)] [] m1 (fX4_twins_L4_b k57  (fX4_twins_L4 k57  n) m1 x2 x3)
    delta fX4_twins_L4_b
    refine ge_iload_n 2 DX4_twins_4 rfl ?_
    refine ge_aload_n 0 DX4_twins_5 rfl ?_
    refine ge_getI DX4_twins_6 fl_X4_17 is_9 (by decide) rfl ?_
    refine ge_icmp_ge (tgt := 57) DX4_twins_9 (by decide) ?_ ?_
    · refine ge_iload_n 2 DX4_twins_12 rfl ?_
      refine ge_iconst (v := (1 : Int32)) DX4_twins_13 rfl ?_
      refine ge_iadd DX4_twins_14 ?_
      refine ge_topi (fun x8 => ?_)
      refine ge_istore_n (ls' := [(3, .int x8), (0, .ref (xad X 9)), (1, .int x2), (2, .int x3)]) DX4_twins_15 (by decide) rfl ?_
      refine ge_sub [1, 2, 3, 0] rfl ?_
      refine lX4_twins_L16 K X x3 (fun m15 x16 => ?_) 5000 m1 x2 x8
      · refine ge_iinc 2 (v := (x3 + (1 : Int32))) (ls' := [(2, .int (x3 + (1 : Int32))), (0, .ref (xad X 9)), (1, .int x16)]) DX4_twins_51 rfl rfl (by decide) rfl ?_
        refine ge_goto (tgt := 4) DX4_twins_54 (by decide) ?_
        refine ge_sub [1, 2, 0] rfl ?_
        exact ih m15 x16 (x3 + (1 : Int32))
    · refine ge_sub [1] rfl ?_
      exact hk57 m1 x2
set_option maxHeartbeats 4000000 in
set_option maxRecDepth 100000 in
theorem okX4_twins (l : Launch) (X : Xt) (m0 : Mem) : Ct l yX4_twins cX4_twins 4 (some .int) rmX4_twins ιI X [.ref (xad X 9)] m0 (fX4_twins m0) := by
  refine ct_of (own := RX4) (ls := [(0, .ref (xad X 9))]) (by decide) rfl rfl (Nat.le_of_ble_eq_true rfl) (fun K => ?_)
  show gX4_twins K X 0 0 0 [(0, .ref (xad X 9))] [] m0 (fX4_twins m0)
  delta fX4_twins
  refine ge_iconst (v := (0 : Int32)) DX4_twins_0 rfl ?_
  refine ge_istore_n (ls' := [(1, .int (0 : Int32)), (0, .ref (xad X 9))]) DX4_twins_1 (by decide) rfl ?_
  refine ge_iconst (v := (0 : Int32)) DX4_twins_2 rfl ?_
  refine ge_istore_n (ls' := [(2, .int (0 : Int32)), (1, .int (0 : Int32)), (0, .ref (xad X 9))]) DX4_twins_3 (by decide) rfl ?_
  refine ge_sub [2, 1, 0] rfl ?_
  refine lX4_twins_L4 K X  (fun m6 x7 => ?_) 5000 m0 (0 : Int32) (0 : Int32)
  · refine ge_iload_n 0 DX4_twins_57 rfl ?_
    exact ge_iret rfl DX4_twins_58
abbrev gX10_within (K : Kt) (X : Xt) := GE (R := Int32) K rmX10_within X cX10_within 3 RX10 (some .boolean) (finM K X ιI 0 0)
set_option maxHeartbeats 4000000 in
set_option maxRecDepth 100000 in
theorem okX10_within (l : Launch) (X : Xt) (m0 : Mem) (a0 : Int32) (a1 : Int32) (a2 : Int32) : Ct l yX10_within cX10_within 3 (some .boolean) rmX10_within ιI X [.int a0, .int a1, .int a2] m0 (fX10_within m0 a0 a1 a2) := by
  refine ct_of (own := RX10) (ls := [(0, .int a0), (1, .int a1), (2, .int a2)]) (by decide) rfl rfl (Nat.le_of_ble_eq_true rfl) (fun K => ?_)
  show gX10_within K X 0 0 0 [(0, .int a0), (1, .int a1), (2, .int a2)] [] m0 (fX10_within m0 a0 a1 a2)
  delta fX10_within
  refine ge_iload_n 0 DX10_within_0 rfl ?_
  refine ge_iload_n 1 DX10_within_1 rfl ?_
  refine ge_icmp_lt (tgt := 14) DX10_within_2 (by decide) ?_ ?_
  · refine ge_iconst (v := (0 : Int32)) DX10_within_14 rfl ?_
    exact ge_zretc rfl rfl DX10_within_15
  · refine ge_iload_n 0 DX10_within_5 rfl ?_
    refine ge_iload_n 2 DX10_within_6 rfl ?_
    refine ge_icmp_gt (tgt := 14) DX10_within_7 (by decide) ?_ ?_
    · refine ge_iconst (v := (0 : Int32)) DX10_within_14 rfl ?_
      exact ge_zretc rfl rfl DX10_within_15
    · refine ge_iconst (v := (1 : Int32)) DX10_within_10 rfl ?_
      refine ge_goto (tgt := 15) DX10_within_11 (by decide) ?_
      exact ge_zretc rfl rfl DX10_within_15
