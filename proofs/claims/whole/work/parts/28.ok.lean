abbrev gX11_isTests (K : Kt) (X : Xt) := GE (R := Int32) K rmX11_isTests X cX11_isTests 1 RX11 (some .boolean) (finM K X ιI 0 0)
set_option maxHeartbeats 4000000 in
set_option maxRecDepth 100000 in
theorem okX11_isTests (l : Launch) (X : Xt) (m0 : Mem) (a0 : Int32) : Ct l yX11_isTests cX11_isTests 1 (some .boolean) rmX11_isTests ιI X [.int a0] m0 (fX11_isTests m0 a0) := by
  refine ct_of (own := RX11) (ls := [(0, .int a0)]) (by decide) rfl rfl (Nat.le_of_ble_eq_true rfl) (fun K => ?_)
  show gX11_isTests K X 0 0 0 [(0, .int a0)] [] m0 (fX11_isTests m0 a0)
  delta fX11_isTests
  refine ge_iload_n 0 DX11_isTests_0 rfl ?_
  refine ge_i2l DX11_isTests_1 ?_
  refine ge_lconst (v := (0 : Int64)) DX11_isTests_2 rfl ?_
  refine ge_ldc2 (v := (4095 : Int64)) kw_X11_240 DX11_isTests_3 ?_
  refine ge_callSi0 (st := []) cm_X11_89 DX11_isTests_6 (okX11_isIn (kl K) X m0 ((a0).toInt64) (0 : Int64) (4095 : Int64)) rfl rfl (Nat.le_of_ble_eq_true rfl) (by decide) ⟨rfl, rfl⟩ ⟨Nat.zero_le _, Nat.zero_le _⟩ (fun r2 m1 => ?_)
  refine ge_if_eq (tgt := 25) DX11_isTests_9 (by decide) ?_ ?_
  · refine ge_iconst (v := (0 : Int32)) DX11_isTests_25 rfl ?_
    exact ge_zretc rfl rfl DX11_isTests_26
  · refine ge_iload_n 0 DX11_isTests_12 rfl ?_
    refine ge_callSi0 (st := []) cm_X11_104 DX11_isTests_13 (okX11_size (kl K) X m1 a0) rfl rfl (Nat.le_of_ble_eq_true rfl) (by decide) ⟨rfl, rfl⟩ ⟨Nat.zero_le _, Nat.zero_le _⟩ (fun r4 m3 => ?_)
    refine ge_bipush (v := (6 : Int32)) DX11_isTests_16 rfl ?_
    refine ge_icmp_gt (tgt := 25) DX11_isTests_18 (by decide) ?_ ?_
    · refine ge_iconst (v := (0 : Int32)) DX11_isTests_25 rfl ?_
      exact ge_zretc rfl rfl DX11_isTests_26
    · refine ge_iconst (v := (1 : Int32)) DX11_isTests_21 rfl ?_
      refine ge_goto (tgt := 26) DX11_isTests_22 (by decide) ?_
      exact ge_zretc rfl rfl DX11_isTests_26
abbrev gX11_side (K : Kt) (X : Xt) := GE (R := Int32) K rmX11_side X cX11_side 7 RX11 (some .int) (finM K X ιI 0 0)
set_option maxHeartbeats 4000000 in
set_option maxRecDepth 100000 in
theorem lX11_side_L6 (K : Kt) (X : Xt) {k82 : Mem → Int32 → Option (Int32 × Mem)} (y2 : Int32) (y3 : Int32) (y4 : Int32)  (hk82 : ∀ (m7 : Mem) (x8 : Int32), gX11_side K X 0 0 82 [(4, .int x8)] [] m7 (k82 m7 x8)) :
    ∀ (n : Nat) (m1 : Mem) (x5 : Int32) (x6 : Int32), gX11_side K X 0 0 6 [(0, .ref (xad X 362)), (1, .int y2), (2, .int y3), (3, .int y4), (4, .int x5), (5, .int x6)] [] m1 (fX11_side_L6 k82 y2 y3 y4 n m1 x5 x6) := by
  intro n
  induction n with
  | zero => intro m1 x5 x6; exact ge_none
  | succ n ih =>
    intro m1 x5 x6
    show gX11_side K X 0 0 6 [(0, .ref (xad X 362)), (1, .int y2), (2, .int y3), (3, .int y4), (4, .int x5), (5, .int x6)] [] m1 (fX11_side_L6_b k82 y2 y3 y4 (fX11_side_L6 k82 y2 y3 y4 n) m1 x5 x6)
    delta fX11_side_L6_b
    refine ge_iload 5 DX11_side_6 rfl ?_
    refine ge_aload_n 0 DX11_side_8 rfl ?_
    refine ge_getI DX11_side_9 fl_X11_76 is_362 (by decide) rfl ?_
    refine ge_icmp_ge (tgt := 82) DX11_side_12 (by decide) ?_ ?_
    · refine ge_aload_n 0 DX11_side_15 rfl ?_
      refine ge_iload 5 DX11_side_16 rfl ?_
      refine ge_callVi0 (st := []) cm_X11_111 DX11_side_18 is_362 rfl (okX11_maskOf (kl K) X m1 x6) rfl rfl (Nat.le_of_ble_eq_true rfl) (by decide) ⟨rfl, rfl⟩ ⟨Nat.zero_le _, Nat.zero_le _⟩ (fun r12 m11 => ?_)
      refine ge_iload_n 2 DX11_side_21 rfl ?_
      refine ge_callSi0 (st := []) cm_X11_100 DX11_side_22 (okX11_has (kl K) X m11 r12 y3) rfl rfl (Nat.le_of_ble_eq_true rfl) (by decide) ⟨rfl, rfl⟩ ⟨Nat.zero_le _, Nat.zero_le _⟩ (fun r14 m13 => ?_)
      refine ge_jn (P := fun k => ∀ (m15 : Mem) (v16 : Int32), gX11_side K X 0 0 47 [(0, .ref (xad X 362)), (1, .int y2), (2, .int y3), (3, .int y4), (4, .int x5), (5, .int x6)] [.int v16] m15 (k m15 v16)) (fun m15 v16 => ?_) (fun j47 hj47 => ?_)
      · refine ge_istore (ls' := [(6, .int v16), (0, .ref (xad X 362)), (1, .int y2), (2, .int y3), (3, .int y4), (4, .int x5), (5, .int x6)]) DX11_side_47 (by decide) rfl ?_
        refine ge_iload 5 DX11_side_49 rfl ?_
        refine ge_iload_n 2 DX11_side_51 rfl ?_
        refine ge_iload 6 DX11_side_52 rfl ?_
        refine ge_callSi0 (st := [.int x5]) cm_X11_100 DX11_side_54 (okX11_has (kl K) X m15 y2 x6) rfl rfl (Nat.le_of_ble_eq_true rfl) (by decide) ⟨rfl, rfl⟩ ⟨Nat.zero_le _, Nat.zero_le _⟩ (fun r18 m17 => ?_)
        refine ge_jn (P := fun k => ∀ (v19 : Int32), gX11_side K X 0 0 73 [(0, .ref (xad X 362)), (1, .int y2), (2, .int y3), (3, .int y4), (5, .int x6)] [.int v19, .int x5] m17 (k v19)) (fun v19 => ?_) (fun j73 hj73 => ?_)
        · refine ge_ior DX11_side_73 ?_
          refine ge_topi (fun x20 => ?_)
          refine ge_istore (ls' := [(4, .int x20), (0, .ref (xad X 362)), (1, .int y2), (2, .int y3), (3, .int y4), (5, .int x6)]) DX11_side_74 (by decide) rfl ?_
          refine ge_iinc 5 (v := (x6 + (1 : Int32))) (ls' := [(5, .int (x6 + (1 : Int32))), (4, .int x20), (0, .ref (xad X 362)), (1, .int y2), (2, .int y3), (3, .int y4)]) DX11_side_76 rfl rfl (by decide) rfl ?_
          refine ge_goto (tgt := 6) DX11_side_79 (by decide) ?_
          refine ge_sub [2, 3, 4, 5, 1, 0] rfl ?_
          exact ih m17 x20 (x6 + (1 : Int32))
        refine ge_jn (P := fun k => gX11_side K X 0 0 72 [(0, .ref (xad X 362)), (1, .int y2), (2, .int y3), (3, .int y4), (5, .int x6)] [.int x5] m17 k) ?_ (fun j72 hj72 => ?_)
        · refine ge_iconst (v := (0 : Int32)) DX11_side_72 rfl ?_
          exact hj73 (0 : Int32)
        refine ge_if_eq (tgt := 72) DX11_side_57 (by decide) ?_ ?_
        · refine ge_sub [1, 2, 3, 4, 6] rfl ?_
          exact hj72
        · refine ge_iload 0 DX11_side_60 rfl ?_
          refine ge_if_ne (tgt := 72) DX11_side_62 (by decide) ?_ ?_
          · refine ge_iconst (v := (1 : Int32)) DX11_side_65 rfl ?_
            refine ge_iload 6 DX11_side_66 rfl ?_
            refine ge_ishl DX11_side_68 ?_
            refine ge_goto (tgt := 73) DX11_side_69 (by decide) ?_
            refine ge_sub [1, 2, 3, 4, 6] rfl ?_
            exact hj73 ((1 : Int32) <<< (x6 &&& 31))
          · refine ge_sub [1, 2, 3, 4, 6] rfl ?_
            exact hj72
      refine ge_jn (P := fun k => ∀ (m21 : Mem), gX11_side K X 0 0 46 [(0, .ref (xad X 362)), (1, .int y2), (2, .int y3), (3, .int y4), (4, .int x5), (5, .int x6)] [] m21 (k m21)) (fun m21 => ?_) (fun j46 hj46 => ?_)
      · refine ge_iconst (v := (0 : Int32)) DX11_side_46 rfl ?_
        exact hj47 m21 (0 : Int32)
      refine ge_if_eq (tgt := 46) DX11_side_25 (by decide) ?_ ?_
      · exact hj46 m13
      · refine ge_aload_n 0 DX11_side_28 rfl ?_
        refine ge_iload 5 DX11_side_29 rfl ?_
        refine ge_callVi0 (st := []) cm_X11_114 DX11_side_31 is_362 rfl (okX11_valueOf (kl K) X m13 x6) rfl rfl (Nat.le_of_ble_eq_true rfl) (by decide) ⟨rfl, rfl⟩ ⟨Nat.zero_le _, Nat.zero_le _⟩ (fun r23 m22 => ?_)
        refine ge_iload_n 2 DX11_side_34 rfl ?_
        refine ge_ishr DX11_side_35 ?_
        refine ge_iconst (v := (1 : Int32)) DX11_side_36 rfl ?_
        refine ge_iand DX11_side_37 ?_
        refine ge_iload_n 3 DX11_side_38 rfl ?_
        refine ge_icmp_eq (tgt := 46) DX11_side_39 (by decide) ?_ ?_
        · exact hj46 m22
        · refine ge_iconst (v := (1 : Int32)) DX11_side_42 rfl ?_
          refine ge_goto (tgt := 47) DX11_side_43 (by decide) ?_
          exact hj47 m22 (1 : Int32)
    · refine ge_sub [4] rfl ?_
      exact hk82 m1 x5
set_option maxHeartbeats 4000000 in
set_option maxRecDepth 100000 in
theorem okX11_side (l : Launch) (X : Xt) (m0 : Mem) (a1 : Int32) (a2 : Int32) (a3 : Int32) : Ct l yX11_side cX11_side 7 (some .int) rmX11_side ιI X [.ref (xad X 362), .int a1, .int a2, .int a3] m0 (fX11_side m0 a1 a2 a3) := by
  refine ct_of (own := RX11) (ls := [(0, .ref (xad X 362)), (1, .int a1), (2, .int a2), (3, .int a3)]) (by decide) rfl rfl (Nat.le_of_ble_eq_true rfl) (fun K => ?_)
  show gX11_side K X 0 0 0 [(0, .ref (xad X 362)), (1, .int a1), (2, .int a2), (3, .int a3)] [] m0 (fX11_side m0 a1 a2 a3)
  delta fX11_side
  refine ge_iconst (v := (0 : Int32)) DX11_side_0 rfl ?_
  refine ge_istore (ls' := [(4, .int (0 : Int32)), (0, .ref (xad X 362)), (1, .int a1), (2, .int a2), (3, .int a3)]) DX11_side_1 (by decide) rfl ?_
  refine ge_iconst (v := (0 : Int32)) DX11_side_3 rfl ?_
  refine ge_istore (ls' := [(5, .int (0 : Int32)), (4, .int (0 : Int32)), (0, .ref (xad X 362)), (1, .int a1), (2, .int a2), (3, .int a3)]) DX11_side_4 (by decide) rfl ?_
  refine ge_sub [2, 3, 4, 5, 1, 0] rfl ?_
  refine lX11_side_L6 K X a1 a2 a3 (fun m9 x10 => ?_) 5000 m0 (0 : Int32) (0 : Int32)
  · refine ge_iload 0 DX11_side_82 rfl ?_
    exact ge_iret rfl DX11_side_84
abbrev gX11_isUseful (K : Kt) (X : Xt) := GE (R := Int32) K rmX11_isUseful X cX11_isUseful 5 RX11 (some .boolean) (finM K X ιI 0 0)
set_option maxHeartbeats 4000000 in
set_option maxRecDepth 100000 in
theorem lX11_isUseful_L5 (K : Kt) (X : Xt) {k52 : Mem → Int32 → Option (Int32 × Mem)} (y2 : Int32) (y3 : Int32)  (hk52 : ∀ (m6 : Mem) (x7 : Int32), gX11_isUseful K X 0 0 52 [(3, .int x7)] [] m6 (k52 m6 x7)) :
    ∀ (n : Nat) (m1 : Mem) (x4 : Int32) (x5 : Int32), gX11_isUseful K X 0 0 5 [(0, .ref (xad X 362)), (1, .int y2), (2, .int y3), (3, .int x4), (4, .int x5)] [] m1 (fX11_isUseful_L5 k52 y2 y3 n m1 x4 x5) := by
  intro n
  induction n with
  | zero => intro m1 x4 x5; exact ge_none
  | succ n ih =>
    intro m1 x4 x5
    show gX11_isUseful K X 0 0 5 [(0, .ref (xad X 362)), (1, .int y2), (2, .int y3), (3, .int x4), (4, .int x5)] [] m1 (fX11_isUseful_L5_b k52 y2 y3 (fX11_isUseful_L5 k52 y2 y3 n) m1 x4 x5)
    delta fX11_isUseful_L5_b
    refine ge_iload 4 DX11_isUseful_5 rfl ?_
    refine ge_aload_n 0 DX11_isUseful_7 rfl ?_
    refine ge_getI DX11_isUseful_8 fl_X11_76 is_362 (by decide) rfl ?_
    refine ge_icmp_ge (tgt := 52) DX11_isUseful_11 (by decide) ?_ ?_
    · refine ge_iload_n 3 DX11_isUseful_14 rfl ?_
      refine ge_jn (P := fun k => ∀ (m10 : Mem) (v11 : Int32), gX11_isUseful K X 0 0 45 [(0, .ref (xad X 362)), (1, .int y2), (2, .int y3), (4, .int x5)] [.int v11] m10 (k m10 v11)) (fun m10 v11 => ?_) (fun j45 hj45 => ?_)
      · refine ge_istore_n (ls' := [(3, .int v11), (0, .ref (xad X 362)), (1, .int y2), (2, .int y3), (4, .int x5)]) DX11_isUseful_45 (by decide) rfl ?_
        refine ge_iinc 4 (v := (x5 + (1 : Int32))) (ls' := [(4, .int (x5 + (1 : Int32))), (3, .int v11), (0, .ref (xad X 362)), (1, .int y2), (2, .int y3)]) DX11_isUseful_46 rfl rfl (by decide) rfl ?_
        refine ge_goto (tgt := 5) DX11_isUseful_49 (by decide) ?_
        refine ge_sub [2, 3, 4, 1, 0] rfl ?_
        exact ih m10 v11 (x5 + (1 : Int32))
      refine ge_jn (P := fun k => ∀ (m12 : Mem), gX11_isUseful K X 0 0 40 [(0, .ref (xad X 362)), (1, .int y2), (2, .int y3), (4, .int x5)] [] m12 (k m12)) (fun m12 => ?_) (fun j40 hj40 => ?_)
      · refine ge_iconst (v := (1 : Int32)) DX11_isUseful_40 rfl ?_
        refine ge_goto (tgt := 45) DX11_isUseful_41 (by decide) ?_
        exact hj45 m12 (1 : Int32)
      refine ge_if_ne (tgt := 40) DX11_isUseful_15 (by decide) ?_ ?_
      · refine ge_iload_n 1 DX11_isUseful_18 rfl ?_
        refine ge_iload 4 DX11_isUseful_19 rfl ?_
        refine ge_callSi0 (st := []) cm_X11_100 DX11_isUseful_21 (okX11_has (kl K) X m1 y2 x5) rfl rfl (Nat.le_of_ble_eq_true rfl) (by decide) ⟨rfl, rfl⟩ ⟨Nat.zero_le _, Nat.zero_le _⟩ (fun r14 m13 => ?_)
        refine ge_jn (P := fun k => ∀ (m15 : Mem), gX11_isUseful K X 0 0 44 [(0, .ref (xad X 362)), (1, .int y2), (2, .int y3), (4, .int x5)] [] m15 (k m15)) (fun m15 => ?_) (fun j44 hj44 => ?_)
        · refine ge_iconst (v := (0 : Int32)) DX11_isUseful_44 rfl ?_
          exact hj45 m15 (0 : Int32)
        refine ge_if_eq (tgt := 44) DX11_isUseful_24 (by decide) ?_ ?_
        · refine ge_sub [0, 1, 2, 4] rfl ?_
          exact hj44 m13
        · refine ge_aload_n 0 DX11_isUseful_27 rfl ?_
          refine ge_iload 4 DX11_isUseful_28 rfl ?_
          refine ge_callVi0 (st := []) cm_X11_111 DX11_isUseful_30 is_362 rfl (okX11_maskOf (kl K) X m13 x5) rfl rfl (Nat.le_of_ble_eq_true rfl) (by decide) ⟨rfl, rfl⟩ ⟨Nat.zero_le _, Nat.zero_le _⟩ (fun r17 m16 => ?_)
          refine ge_iload_n 2 DX11_isUseful_33 rfl ?_
          refine ge_callSi0 (st := []) cm_X11_100 DX11_isUseful_34 (okX11_has (kl K) X m16 r17 y3) rfl rfl (Nat.le_of_ble_eq_true rfl) (by decide) ⟨rfl, rfl⟩ ⟨Nat.zero_le _, Nat.zero_le _⟩ (fun r19 m18 => ?_)
          refine ge_if_eq (tgt := 44) DX11_isUseful_37 (by decide) ?_ ?_
          · refine ge_sub [0, 1, 2, 4] rfl ?_
            exact hj44 m18
          · refine ge_sub [0, 1, 2, 4] rfl ?_
            exact hj40 m18
      · refine ge_sub [0, 1, 2, 4] rfl ?_
        exact hj40 m1
    · refine ge_sub [3] rfl ?_
      exact hk52 m1 x4
set_option maxHeartbeats 4000000 in
set_option maxRecDepth 100000 in
theorem okX11_isUseful (l : Launch) (X : Xt) (m0 : Mem) (a1 : Int32) (a2 : Int32) : Ct l yX11_isUseful cX11_isUseful 5 (some .boolean) rmX11_isUseful ιI X [.ref (xad X 362), .int a1, .int a2] m0 (fX11_isUseful m0 a1 a2) := by
  refine ct_of (own := RX11) (ls := [(0, .ref (xad X 362)), (1, .int a1), (2, .int a2)]) (by decide) rfl rfl (Nat.le_of_ble_eq_true rfl) (fun K => ?_)
  show gX11_isUseful K X 0 0 0 [(0, .ref (xad X 362)), (1, .int a1), (2, .int a2)] [] m0 (fX11_isUseful m0 a1 a2)
  delta fX11_isUseful
  refine ge_iconst (v := (0 : Int32)) DX11_isUseful_0 rfl ?_
  refine ge_istore_n (ls' := [(3, .int (0 : Int32)), (0, .ref (xad X 362)), (1, .int a1), (2, .int a2)]) DX11_isUseful_1 (by decide) rfl ?_
  refine ge_iconst (v := (0 : Int32)) DX11_isUseful_2 rfl ?_
  refine ge_istore (ls' := [(4, .int (0 : Int32)), (3, .int (0 : Int32)), (0, .ref (xad X 362)), (1, .int a1), (2, .int a2)]) DX11_isUseful_3 (by decide) rfl ?_
  refine ge_sub [2, 3, 4, 1, 0] rfl ?_
  refine lX11_isUseful_L5 K X a1 a2 (fun m8 x9 => ?_) 5000 m0 (0 : Int32) (0 : Int32)
  · refine ge_iload_n 0 DX11_isUseful_52 rfl ?_
    exact ge_zret rfl DX11_isUseful_53
abbrev gX11_greedyBit (K : Kt) (X : Xt) := GE (R := Int32) K rmX11_greedyBit X cX11_greedyBit 10 RX11 (some .int) (finM K X ιI 0 0)
set_option maxHeartbeats 4000000 in
set_option maxRecDepth 100000 in
theorem lX11_greedyBit_L12 (K : Kt) (X : Xt) {k129 : Mem → Int32 → Option (Int32 × Mem)} (y2 : Int32) (y3 : Int32)  (hk129 : ∀ (m8 : Mem) (x9 : Int32), gX11_greedyBit K X 0 0 129 [(3, .int x9)] [] m8 (k129 m8 x9)) :
    ∀ (n : Nat) (m1 : Mem) (x4 : Int32) (x5 : Int32) (x6 : Int32) (x7 : Int32), gX11_greedyBit K X 0 0 12 [(0, .ref (xad X 362)), (1, .int y2), (2, .int y3), (3, .int x4), (4, .int x5), (5, .int x6), (6, .int x7)] [] m1 (fX11_greedyBit_L12 k129 y2 y3 n m1 x4 x5 x6 x7) := by
  intro n
  induction n with
  | zero => intro m1 x4 x5 x6 x7; exact ge_none
  | succ n ih =>
    intro m1 x4 x5 x6 x7
    show gX11_greedyBit K X 0 0 12 [(0, .ref (xad X 362)), (1, .int y2), (2, .int y3), (3, .int x4), (4, .int x5), (5, .int x6), (6, .int x7)] [] m1 (fX11_greedyBit_L12_b k129 y2 y3 (fX11_greedyBit_L12 k129 y2 y3 n) m1 x4 x5 x6 x7)
    delta fX11_greedyBit_L12_b
    refine ge_iload 6 DX11_greedyBit_12 rfl ?_
    refine ge_if_lt (tgt := 129) DX11_greedyBit_14 (by decide) ?_ ?_
    · refine ge_sub [3] rfl ?_
      exact hk129 m1 x4
    · refine ge_iload_n 2 DX11_greedyBit_17 rfl ?_
      refine ge_iload 6 DX11_greedyBit_18 rfl ?_
      refine ge_callSi0 (st := []) cm_X11_100 DX11_greedyBit_20 (okX11_has (kl K) X m1 y3 x7) rfl rfl (Nat.le_of_ble_eq_true rfl) (by decide) ⟨rfl, rfl⟩ ⟨Nat.zero_le _, Nat.zero_le _⟩ (fun r13 m12 => ?_)
      refine ge_jn (P := fun k => ∀ (m14 : Mem) (x15 : Int32) (x16 : Int32) (x17 : Int32), gX11_greedyBit K X 0 0 123 [(0, .ref (xad X 362)), (1, .int y2), (2, .int y3), (3, .int x15), (4, .int x16), (5, .int x17), (6, .int x7)] [] m14 (k m14 x15 x16 x17)) (fun m14 x15 x16 x17 => ?_) (fun j123 hj123 => ?_)
      · refine ge_iinc 6 (v := (x7 + (-1 : Int32))) (ls' := [(6, .int (x7 + (-1 : Int32))), (0, .ref (xad X 362)), (1, .int y2), (2, .int y3), (3, .int x15), (4, .int x16), (5, .int x17)]) DX11_greedyBit_123 rfl rfl (by decide) rfl ?_
        refine ge_goto (tgt := 12) DX11_greedyBit_126 (by decide) ?_
        refine ge_sub [1, 2, 3, 4, 5, 6, 0] rfl ?_
        exact ih m14 x15 x16 x17 (x7 + (-1 : Int32))
      refine ge_if_eq (tgt := 123) DX11_greedyBit_23 (by decide) ?_ ?_
      · exact hj123 m12 x4 x5 x6
      · refine ge_aload_n 0 DX11_greedyBit_26 rfl ?_
        refine ge_iload_n 1 DX11_greedyBit_27 rfl ?_
        refine ge_iload 6 DX11_greedyBit_28 rfl ?_
        refine ge_callVi0 (st := []) cm_X11_250 DX11_greedyBit_30 is_362 rfl (okX11_isUseful (kl K) X m12 y2 x7) rfl rfl (Nat.le_of_ble_eq_true rfl) (by decide) ⟨rfl, rfl⟩ ⟨Nat.zero_le _, Nat.zero_le _⟩ (fun r19 m18 => ?_)
        refine ge_if_ne (tgt := 39) DX11_greedyBit_33 (by decide) ?_ ?_
        · refine ge_goto (tgt := 123) DX11_greedyBit_36 (by decide) ?_
          exact hj123 m18 x4 x5 x6
        · refine ge_aload_n 0 DX11_greedyBit_39 rfl ?_
          refine ge_iload_n 1 DX11_greedyBit_40 rfl ?_
          refine ge_iload 6 DX11_greedyBit_41 rfl ?_
          refine ge_iconst (v := (0 : Int32)) DX11_greedyBit_43 rfl ?_
          refine ge_callVi0 (st := []) cm_X11_253 DX11_greedyBit_44 is_362 rfl (okX11_side (kl K) X m18 y2 x7 (0 : Int32)) rfl rfl (Nat.le_of_ble_eq_true rfl) (by decide) ⟨rfl, rfl⟩ ⟨Nat.zero_le _, Nat.zero_le _⟩ (fun r21 m20 => ?_)
          refine ge_callSi0 (st := []) cm_X11_104 DX11_greedyBit_47 (okX11_size (kl K) X m20 r21) rfl rfl (Nat.le_of_ble_eq_true rfl) (by decide) ⟨rfl, rfl⟩ ⟨Nat.zero_le _, Nat.zero_le _⟩ (fun r23 m22 => ?_)
          refine ge_istore (ls' := [(7, .int r23), (0, .ref (xad X 362)), (1, .int y2), (2, .int y3), (3, .int x4), (4, .int x5), (5, .int x6), (6, .int x7)]) DX11_greedyBit_50 (by decide) rfl ?_
          refine ge_aload_n 1 DX11_greedyBit_52 rfl ?_
          refine ge_iload_n 2 DX11_greedyBit_53 rfl ?_
          refine ge_iload 7 DX11_greedyBit_54 rfl ?_
          refine ge_iconst (v := (1 : Int32)) DX11_greedyBit_56 rfl ?_
          refine ge_callVi0 (st := []) cm_X11_253 DX11_greedyBit_57 is_362 rfl (okX11_side (kl K) X m22 y2 x7 (1 : Int32)) rfl rfl (Nat.le_of_ble_eq_true rfl) (by decide) ⟨rfl, rfl⟩ ⟨Nat.zero_le _, Nat.zero_le _⟩ (fun r25 m24 => ?_)
          refine ge_callSi0 (st := []) cm_X11_104 DX11_greedyBit_60 (okX11_size (kl K) X m24 r25) rfl rfl (Nat.le_of_ble_eq_true rfl) (by decide) ⟨rfl, rfl⟩ ⟨Nat.zero_le _, Nat.zero_le _⟩ (fun r27 m26 => ?_)
          refine ge_istore (ls' := [(8, .int r27), (7, .int r23), (0, .ref (xad X 362)), (1, .int y2), (2, .int y3), (3, .int x4), (4, .int x5), (5, .int x6), (6, .int x7)]) DX11_greedyBit_63 (by decide) rfl ?_
          refine ge_iload 1 DX11_greedyBit_65 rfl ?_
          refine ge_iload 0 DX11_greedyBit_67 rfl ?_
          refine ge_jn (P := fun k => ∀ (v28 : Int32), gX11_greedyBit K X 0 0 79 [(0, .ref (xad X 362)), (1, .int y2), (2, .int y3), (3, .int x4), (4, .int x5), (5, .int x6), (6, .int x7), (7, .int r23), (8, .int r27)] [.int v28] m26 (k v28)) (fun v28 => ?_) (fun j79 hj79 => ?_)
          · refine ge_istore (ls' := [(9, .int v28), (0, .ref (xad X 362)), (1, .int y2), (2, .int y3), (3, .int x4), (4, .int x5), (5, .int x6), (6, .int x7), (7, .int r23), (8, .int r27)]) DX11_greedyBit_79 (by decide) rfl ?_
            refine ge_iload_n 4 DX11_greedyBit_81 rfl ?_
            refine ge_jn (P := fun k => gX11_greedyBit K X 0 0 109 [(0, .ref (xad X 362)), (1, .int y2), (2, .int y3), (6, .int x7), (7, .int r23), (8, .int r27), (9, .int v28)] [] m26 k) ?_ (fun j109 hj109 => ?_)
            · refine ge_iload 3 DX11_greedyBit_109 rfl ?_
              refine ge_istore_n (ls' := [(3, .int x7), (0, .ref (xad X 362)), (1, .int y2), (2, .int y3), (6, .int x7), (7, .int r23), (8, .int r27), (9, .int v28)]) DX11_greedyBit_111 (by decide) rfl ?_
              refine ge_iload 7 DX11_greedyBit_112 rfl ?_
              refine ge_istore (ls' := [(4, .int v28), (3, .int x7), (0, .ref (xad X 362)), (1, .int y2), (2, .int y3), (6, .int x7), (7, .int r23), (8, .int r27), (9, .int v28)]) DX11_greedyBit_114 (by decide) rfl ?_
              refine ge_iload 6 DX11_greedyBit_116 rfl ?_
              refine ge_iload 7 DX11_greedyBit_118 rfl ?_
              refine ge_iadd DX11_greedyBit_120 ?_
              refine ge_topi (fun x29 => ?_)
              refine ge_istore (ls' := [(5, .int x29), (4, .int v28), (3, .int x7), (0, .ref (xad X 362)), (1, .int y2), (2, .int y3), (6, .int x7), (7, .int r23), (8, .int r27), (9, .int v28)]) DX11_greedyBit_121 (by decide) rfl ?_
              refine ge_sub [3, 4, 5, 2, 1, 0, 6] rfl ?_
              exact hj123 m26 x7 v28 x29
            refine ge_if_lt (tgt := 109) DX11_greedyBit_82 (by decide) ?_ ?_
            · refine ge_sub [1, 2, 3, 7, 8, 9, 0] rfl ?_
              exact hj109
            · refine ge_iload 0 DX11_greedyBit_85 rfl ?_
              refine ge_iload 5 DX11_greedyBit_87 rfl ?_
              refine ge_icmp_lt (tgt := 109) DX11_greedyBit_89 (by decide) ?_ ?_
              · refine ge_sub [1, 2, 3, 7, 8, 9, 0] rfl ?_
                exact hj109
              · refine ge_iload 0 DX11_greedyBit_92 rfl ?_
                refine ge_iload 5 DX11_greedyBit_94 rfl ?_
                refine ge_icmp_ne (tgt := 123) DX11_greedyBit_96 (by decide) ?_ ?_
                · refine ge_iload 8 DX11_greedyBit_99 rfl ?_
                  refine ge_iload 9 DX11_greedyBit_101 rfl ?_
                  refine ge_iadd DX11_greedyBit_103 ?_
                  refine ge_iload 6 DX11_greedyBit_104 rfl ?_
                  refine ge_icmp_ge (tgt := 123) DX11_greedyBit_106 (by decide) ?_ ?_
                  · refine ge_sub [1, 2, 3, 7, 8, 9, 0] rfl ?_
                    exact hj109
                  · refine ge_sub [1, 2, 3, 4, 5, 6, 7] rfl ?_
                    exact hj123 m26 x4 x5 x6
                · refine ge_sub [1, 2, 3, 4, 5, 6, 7] rfl ?_
                  exact hj123 m26 x4 x5 x6
          refine ge_icmp_le (tgt := 77) DX11_greedyBit_69 (by decide) ?_ ?_
          · refine ge_iload 1 DX11_greedyBit_72 rfl ?_
            refine ge_goto (tgt := 79) DX11_greedyBit_74 (by decide) ?_
            refine ge_sub [2, 3, 4, 5, 6, 7, 8, 1, 0] rfl ?_
            exact hj79 r23
          · refine ge_iload 0 DX11_greedyBit_77 rfl ?_
            refine ge_sub [2, 3, 4, 5, 6, 7, 8, 1, 0] rfl ?_
            exact hj79 r27
set_option maxHeartbeats 4000000 in
set_option maxRecDepth 100000 in
theorem okX11_greedyBit (l : Launch) (X : Xt) (m0 : Mem) (a1 : Int32) (a2 : Int32) : Ct l yX11_greedyBit cX11_greedyBit 10 (some .int) rmX11_greedyBit ιI X [.ref (xad X 362), .int a1, .int a2] m0 (fX11_greedyBit m0 a1 a2) := by
  refine ct_of (own := RX11) (ls := [(0, .ref (xad X 362)), (1, .int a1), (2, .int a2)]) (by decide) rfl rfl (Nat.le_of_ble_eq_true rfl) (fun K => ?_)
  show gX11_greedyBit K X 0 0 0 [(0, .ref (xad X 362)), (1, .int a1), (2, .int a2)] [] m0 (fX11_greedyBit m0 a1 a2)
  delta fX11_greedyBit
  refine ge_iconst (v := (-1 : Int32)) DX11_greedyBit_0 rfl ?_
  refine ge_istore_n (ls' := [(3, .int (-1 : Int32)), (0, .ref (xad X 362)), (1, .int a1), (2, .int a2)]) DX11_greedyBit_1 (by decide) rfl ?_
  refine ge_iconst (v := (0 : Int32)) DX11_greedyBit_2 rfl ?_
  refine ge_istore (ls' := [(4, .int (0 : Int32)), (3, .int (-1 : Int32)), (0, .ref (xad X 362)), (1, .int a1), (2, .int a2)]) DX11_greedyBit_3 (by decide) rfl ?_
  refine ge_iconst (v := (0 : Int32)) DX11_greedyBit_5 rfl ?_
  refine ge_istore (ls' := [(5, .int (0 : Int32)), (4, .int (0 : Int32)), (3, .int (-1 : Int32)), (0, .ref (xad X 362)), (1, .int a1), (2, .int a2)]) DX11_greedyBit_6 (by decide) rfl ?_
  refine ge_bipush (v := (11 : Int32)) DX11_greedyBit_8 rfl ?_
  refine ge_istore (ls' := [(6, .int (11 : Int32)), (5, .int (0 : Int32)), (4, .int (0 : Int32)), (3, .int (-1 : Int32)), (0, .ref (xad X 362)), (1, .int a1), (2, .int a2)]) DX11_greedyBit_10 (by decide) rfl ?_
  refine ge_sub [4, 5, 6, 3, 2, 1, 0] rfl ?_
  refine lX11_greedyBit_L12 K X a1 a2 (fun m10 x11 => ?_) 5000 m0 (-1 : Int32) (0 : Int32) (0 : Int32) (11 : Int32)
  · refine ge_iload_n 0 DX11_greedyBit_129 rfl ?_
    exact ge_iret rfl DX11_greedyBit_130
abbrev gX11_goesGreedy (rm : Room) (K : Kt) (X : Xt) := GE (R := Unit) K rm X cX11_goesGreedy 5 RX11 none (finM K X ιV 0 0)
set_option maxHeartbeats 4000000 in
set_option maxRecDepth 100000 in
theorem okX11_goesGreedy_b (d : Nat) (self : Mem → Int32 → Int32 → Int32 → Option (Unit × Mem)) (hself : ∀ (l : Launch) (X : Xt) (m0 : Mem) (a1 a2 a3 : Int32), Ct l yX11_goesGreedy cX11_goesGreedy 5 none (rmX11_goesGreedy d) ιV X [.ref (xad X 362), .int a1, .int a2, .int a3] m0 (self m0 a1 a2 a3)) (l : Launch) (X : Xt) (m0 : Mem) (a1 : Int32) (a2 : Int32) (a3 : Int32) : Ct l yX11_goesGreedy cX11_goesGreedy 5 none (rmX11_goesGreedy (d + 1)) ιV X [.ref (xad X 362), .int a1, .int a2, .int a3] m0 (fX11_goesGreedy_b self m0 a1 a2 a3) := by
  refine ct_of (own := RX11) (ls := [(0, .ref (xad X 362)), (1, .int a1), (2, .int a2), (3, .int a3)]) (by decide) rfl rfl (Nat.le_of_ble_eq_true rfl) (fun K => ?_)
  show gX11_goesGreedy (rmX11_goesGreedy (d + 1)) K X 0 0 0 [(0, .ref (xad X 362)), (1, .int a1), (2, .int a2), (3, .int a3)] [] m0 (fX11_goesGreedy_b self m0 a1 a2 a3)
  delta fX11_goesGreedy_b
  refine ge_aload_n 0 DX11_goesGreedy_0 rfl ?_
  refine ge_iload_n 1 DX11_goesGreedy_1 rfl ?_
  refine ge_iload_n 2 DX11_goesGreedy_2 rfl ?_
  refine ge_callVi0 (st := []) cm_X11_256 DX11_goesGreedy_3 is_362 rfl (okX11_greedyBit (kl K) X m0 a1 a2) rfl rfl (Nat.le_of_ble_eq_true rfl) (by constructor <;> simp [rmX11_goesGreedy, rmX11_greedyBit] <;> omega) ⟨rfl, rfl⟩ ⟨Nat.zero_le _, Nat.zero_le _⟩ (fun r2 m1 => ?_)
  refine ge_istore (ls' := [(4, .int r2), (0, .ref (xad X 362)), (1, .int a1), (2, .int a2), (3, .int a3)]) DX11_goesGreedy_6 (by decide) rfl ?_
  refine ge_iload 0 DX11_goesGreedy_8 rfl ?_
  refine ge_if_ge (tgt := 60) DX11_goesGreedy_10 (by decide) ?_ ?_
  · refine ge_aload_n 1 DX11_goesGreedy_13 rfl ?_
    refine ge_iload_n 4 DX11_goesGreedy_14 rfl ?_
    refine ge_aload_n 1 DX11_goesGreedy_15 rfl ?_
    refine ge_getI DX11_goesGreedy_16 fl_X11_259 is_362 (by decide) rfl ?_
    refine ge_jn (P := fun k => ∀ (v3 : Int32), gX11_goesGreedy (rmX11_goesGreedy (d + 1)) K X 0 0 30 [(0, .ref (xad X 362)), (1, .int a1)] [.int v3, .ref (xad X 362)] m1 (k v3)) (fun v3 => ?_) (fun j30 hj30 => ?_)
    · refine ge_put DX11_goesGreedy_30 fp_X11_259 is_362 (by decide) rfl (fun m4 => ?_)
      refine ge_aload_n 0 DX11_goesGreedy_33 rfl ?_
      refine ge_iload_n 1 DX11_goesGreedy_34 rfl ?_
      refine ge_callSi0 (st := [.ref (xad X 362)]) cm_X11_104 DX11_goesGreedy_35 (okX11_size (kl K) X m4 a1) rfl rfl (Nat.le_of_ble_eq_true rfl) (by constructor <;> simp [rmX11_goesGreedy, rmX11_size] <;> omega) ⟨rfl, rfl⟩ ⟨Nat.zero_le _, Nat.zero_le _⟩ (fun r6 m5 => ?_)
      refine ge_aload_n 0 DX11_goesGreedy_38 rfl ?_
      refine ge_getI DX11_goesGreedy_39 fl_X11_262 is_362 (by decide) rfl ?_
      refine ge_jn (P := fun k => ∀ (m7 : Mem) (v8 : Int32), gX11_goesGreedy (rmX11_goesGreedy (d + 1)) K X 0 0 56 [] [.int v8, .ref (xad X 362)] m7 (k m7 v8)) (fun m7 v8 => ?_) (fun j56 hj56 => ?_)
      · refine ge_put DX11_goesGreedy_56 fp_X11_262 is_362 (by decide) rfl (fun m9 => ?_)
        exact ge_vret rfl DX11_goesGreedy_59
      refine ge_icmp_le (tgt := 52) DX11_goesGreedy_42 (by decide) ?_ ?_
      · refine ge_iload_n 1 DX11_goesGreedy_45 rfl ?_
        refine ge_callSi0 (st := [.ref (xad X 362)]) cm_X11_104 DX11_goesGreedy_46 (okX11_size (kl K) X m5 a1) rfl rfl (Nat.le_of_ble_eq_true rfl) (by constructor <;> simp [rmX11_goesGreedy, rmX11_size] <;> omega) ⟨rfl, rfl⟩ ⟨Nat.zero_le _, Nat.zero_le _⟩ (fun r11 m10 => ?_)
        refine ge_goto (tgt := 56) DX11_goesGreedy_49 (by decide) ?_
        refine ge_sub [] rfl ?_
        exact hj56 m10 r11
      · refine ge_aload_n 0 DX11_goesGreedy_52 rfl ?_
        refine ge_getI DX11_goesGreedy_53 fl_X11_262 is_362 (by decide) rfl ?_
        refine ge_sub [] rfl ?_
        exact hj56 m5 (m5 362 33)
    refine ge_icmp_le (tgt := 26) DX11_goesGreedy_19 (by decide) ?_ ?_
    · refine ge_iload_n 4 DX11_goesGreedy_22 rfl ?_
      refine ge_goto (tgt := 30) DX11_goesGreedy_23 (by decide) ?_
      refine ge_sub [1, 2] rfl ?_
      exact hj30 a3
    · refine ge_aload_n 1 DX11_goesGreedy_26 rfl ?_
      refine ge_getI DX11_goesGreedy_27 fl_X11_259 is_362 (by decide) rfl ?_
      refine ge_sub [1, 2] rfl ?_
      exact hj30 (m1 362 32)
  · refine ge_aload_n 1 DX11_goesGreedy_60 rfl ?_
    refine ge_dup DX11_goesGreedy_61 rfl ?_
    refine ge_getI DX11_goesGreedy_62 fl_X11_265 is_362 (by decide) rfl ?_
    refine ge_iconst (v := (1 : Int32)) DX11_goesGreedy_65 rfl ?_
    refine ge_iadd DX11_goesGreedy_66 ?_
    refine ge_put DX11_goesGreedy_67 fp_X11_265 is_362 (by decide) rfl (fun m12 => ?_)
    refine ge_aload_n 1 DX11_goesGreedy_70 rfl ?_
    refine ge_aload_n 1 DX11_goesGreedy_71 rfl ?_
    refine ge_iload_n 2 DX11_goesGreedy_72 rfl ?_
    refine ge_iload 0 DX11_goesGreedy_73 rfl ?_
    refine ge_iconst (v := (0 : Int32)) DX11_goesGreedy_75 rfl ?_
    refine ge_callVi0 (st := [.ref (xad X 362)]) cm_X11_253 DX11_goesGreedy_76 is_362 rfl (okX11_side (kl K) X m12 a1 r2 (0 : Int32)) rfl rfl (Nat.le_of_ble_eq_true rfl) (by constructor <;> simp [rmX11_goesGreedy, rmX11_side] <;> omega) ⟨rfl, rfl⟩ ⟨Nat.zero_le _, Nat.zero_le _⟩ (fun r14 m13 => ?_)
    refine ge_iload_n 3 DX11_goesGreedy_79 rfl ?_
    refine ge_iconst (v := (1 : Int32)) DX11_goesGreedy_80 rfl ?_
    refine ge_iload 0 DX11_goesGreedy_81 rfl ?_
    refine ge_ishl DX11_goesGreedy_83 ?_
    refine ge_iconst (v := (-1 : Int32)) DX11_goesGreedy_84 rfl ?_
    refine ge_ixor DX11_goesGreedy_85 ?_
    refine ge_iand DX11_goesGreedy_86 ?_
    refine ge_iload_n 4 DX11_goesGreedy_87 rfl ?_
    refine ge_iconst (v := (1 : Int32)) DX11_goesGreedy_88 rfl ?_
    refine ge_iadd DX11_goesGreedy_89 ?_
    refine ge_callVv0 (st := []) cm_X11_268 DX11_goesGreedy_90 is_362 rfl (hself (kl K) X m13 r14 (a2 &&& (((1 : Int32) <<< (r2 &&& 31)) ^^^ (-1 : Int32))) (a3 + (1 : Int32))) rfl rfl (Nat.le_of_ble_eq_true rfl) (by constructor <;> simp [rmX11_goesGreedy, rmX11_goesGreedy] <;> omega) ⟨rfl, rfl⟩ ⟨Nat.zero_le _, Nat.zero_le _⟩ (fun m15 => ?_)
    refine ge_aload_n 1 DX11_goesGreedy_93 rfl ?_
    refine ge_aload_n 1 DX11_goesGreedy_94 rfl ?_
    refine ge_iload_n 2 DX11_goesGreedy_95 rfl ?_
    refine ge_iload 0 DX11_goesGreedy_96 rfl ?_
    refine ge_iconst (v := (1 : Int32)) DX11_goesGreedy_98 rfl ?_
    refine ge_callVi0 (st := [.ref (xad X 362)]) cm_X11_253 DX11_goesGreedy_99 is_362 rfl (okX11_side (kl K) X m15 a1 r2 (1 : Int32)) rfl rfl (Nat.le_of_ble_eq_true rfl) (by constructor <;> simp [rmX11_goesGreedy, rmX11_side] <;> omega) ⟨rfl, rfl⟩ ⟨Nat.zero_le _, Nat.zero_le _⟩ (fun r17 m16 => ?_)
    refine ge_iload_n 3 DX11_goesGreedy_102 rfl ?_
    refine ge_iconst (v := (1 : Int32)) DX11_goesGreedy_103 rfl ?_
    refine ge_iload 0 DX11_goesGreedy_104 rfl ?_
    refine ge_ishl DX11_goesGreedy_106 ?_
    refine ge_iconst (v := (-1 : Int32)) DX11_goesGreedy_107 rfl ?_
    refine ge_ixor DX11_goesGreedy_108 ?_
    refine ge_iand DX11_goesGreedy_109 ?_
    refine ge_iload_n 4 DX11_goesGreedy_110 rfl ?_
    refine ge_iconst (v := (1 : Int32)) DX11_goesGreedy_111 rfl ?_
    refine ge_iadd DX11_goesGreedy_112 ?_
    refine ge_callVv0 (st := []) cm_X11_268 DX11_goesGreedy_113 is_362 rfl (hself (kl K) X m16 r17 (a2 &&& (((1 : Int32) <<< (r2 &&& 31)) ^^^ (-1 : Int32))) (a3 + (1 : Int32))) rfl rfl (Nat.le_of_ble_eq_true rfl) (by constructor <;> simp [rmX11_goesGreedy, rmX11_goesGreedy] <;> omega) ⟨rfl, rfl⟩ ⟨Nat.zero_le _, Nat.zero_le _⟩ (fun m18 => ?_)
    exact ge_vret rfl DX11_goesGreedy_116
theorem okX11_goesGreedy (d : Nat) : ∀ (l : Launch) (X : Xt) (m0 : Mem) (a1 a2 a3 : Int32), Ct l yX11_goesGreedy cX11_goesGreedy 5 none (rmX11_goesGreedy d) ιV X [.ref (xad X 362), .int a1, .int a2, .int a3] m0 (fX11_goesGreedy d m0 a1 a2 a3) := by
  induction d with
  | zero => intro l X m0 a1 a2 a3 r σ' h; cases h
  | succ d ih => intro l X m0 a1 a2 a3; exact okX11_goesGreedy_b d (fX11_goesGreedy d) ih l X m0 a1 a2 a3
abbrev gX11_greedy (K : Kt) (X : Xt) := GE (R := Int32) K rmX11_greedy X cX11_greedy 4 RX11 (some .int) (finM K X ιI 0 0)
set_option maxHeartbeats 4000000 in
set_option maxRecDepth 100000 in
theorem okX11_greedy (l : Launch) (X : Xt) (m0 : Mem) (a1 : Int32) (a2 : Int32) : Ct l yX11_greedy cX11_greedy 4 (some .int) rmX11_greedy ιI X [.ref (xad X 362), .int a1, .int a2] m0 (fX11_greedy m0 a1 a2) := by
  refine ct_of (own := RX11) (ls := [(0, .ref (xad X 362)), (1, .int a1), (2, .int a2)]) (by decide) rfl rfl (Nat.le_of_ble_eq_true rfl) (fun K => ?_)
  show gX11_greedy K X 0 0 0 [(0, .ref (xad X 362)), (1, .int a1), (2, .int a2)] [] m0 (fX11_greedy m0 a1 a2)
  delta fX11_greedy
  refine ge_iload_n 1 DX11_greedy_0 rfl ?_
  refine ge_callSi0 (st := []) cm_X11_272 DX11_greedy_1 (okX11_isTests (kl K) X m0 a1) rfl rfl (Nat.le_of_ble_eq_true rfl) (by decide) ⟨rfl, rfl⟩ ⟨Nat.zero_le _, Nat.zero_le _⟩ (fun r2 m1 => ?_)
  refine ge_jn (P := fun k => ∀ (m3 : Mem), gX11_greedy K X 0 0 19 [(0, .ref (xad X 362))] [] m3 (k m3)) (fun m3 => ?_) (fun j19 hj19 => ?_)
  · refine ge_aload_n 0 DX11_greedy_19 rfl ?_
    refine ge_sipush (v := (-1001 : Int32)) DX11_greedy_20 rfl ?_
    refine ge_callVi0 (st := []) cm_X11_145 DX11_greedy_23 is_362 rfl (okX11_refuse (kl K) X m3 (-1001 : Int32)) rfl rfl (Nat.le_of_ble_eq_true rfl) (by decide) ⟨rfl, rfl⟩ ⟨Nat.zero_le _, Nat.zero_le _⟩ (fun r5 m4 => ?_)
    exact ge_iret rfl DX11_greedy_26
  refine ge_if_eq (tgt := 19) DX11_greedy_4 (by decide) ?_ ?_
  · refine ge_sub [0] rfl ?_
    exact hj19 m1
  · refine ge_iload_n 2 DX11_greedy_7 rfl ?_
    refine ge_i2l DX11_greedy_8 ?_
    refine ge_lconst (v := (0 : Int64)) DX11_greedy_9 rfl ?_
    refine ge_ldc2 (v := (3 : Int64)) kw_X11_275 DX11_greedy_10 ?_
    refine ge_callSi0 (st := []) cm_X11_89 DX11_greedy_13 (okX11_isIn (kl K) X m1 ((a2).toInt64) (0 : Int64) (3 : Int64)) rfl rfl (Nat.le_of_ble_eq_true rfl) (by decide) ⟨rfl, rfl⟩ ⟨Nat.zero_le _, Nat.zero_le _⟩ (fun r7 m6 => ?_)
    refine ge_if_ne (tgt := 27) DX11_greedy_16 (by decide) ?_ ?_
    · refine ge_sub [0] rfl ?_
      exact hj19 m6
    · refine ge_iconst (v := (1 : Int32)) DX11_greedy_27 rfl ?_
      refine ge_aload_n 0 DX11_greedy_28 rfl ?_
      refine ge_getI DX11_greedy_29 fl_X11_76 is_362 (by decide) rfl ?_
      refine ge_ishl DX11_greedy_32 ?_
      refine ge_iconst (v := (1 : Int32)) DX11_greedy_33 rfl ?_
      refine ge_isub DX11_greedy_34 ?_
      refine ge_topi (fun x8 => ?_)
      refine ge_istore_n (ls' := [(3, .int x8), (0, .ref (xad X 362)), (1, .int a1), (2, .int a2)]) DX11_greedy_35 (by decide) rfl ?_
      refine ge_aload_n 1 DX11_greedy_36 rfl ?_
      refine ge_iconst (v := (0 : Int32)) DX11_greedy_37 rfl ?_
      refine ge_put DX11_greedy_38 fp_X11_265 is_362 (by decide) rfl (fun m9 => ?_)
      refine ge_aload_n 1 DX11_greedy_41 rfl ?_
      refine ge_iconst (v := (0 : Int32)) DX11_greedy_42 rfl ?_
      refine ge_put DX11_greedy_43 fp_X11_259 is_362 (by decide) rfl (fun m10 => ?_)
      refine ge_aload_n 1 DX11_greedy_46 rfl ?_
      refine ge_iconst (v := (0 : Int32)) DX11_greedy_47 rfl ?_
      refine ge_put DX11_greedy_48 fp_X11_262 is_362 (by decide) rfl (fun m11 => ?_)
      refine ge_aload_n 1 DX11_greedy_51 rfl ?_
      refine ge_iload_n 0 DX11_greedy_52 rfl ?_
      refine ge_iload_n 2 DX11_greedy_53 rfl ?_
      refine ge_iconst (v := (0 : Int32)) DX11_greedy_54 rfl ?_
      refine ge_callVv0 (st := []) cm_X11_268 DX11_greedy_55 is_362 rfl (okX11_goesGreedy 8 (kl K) X m11 x8 a1 (0 : Int32)) rfl rfl (Nat.le_of_ble_eq_true rfl) (by decide) ⟨rfl, rfl⟩ ⟨Nat.zero_le _, Nat.zero_le _⟩ (fun m12 => ?_)
      refine ge_iload_n 3 DX11_greedy_58 rfl ?_
      refine ge_if_ne (tgt := 69) DX11_greedy_59 (by decide) ?_ ?_
      · refine ge_aload_n 1 DX11_greedy_62 rfl ?_
        refine ge_getI DX11_greedy_63 fl_X11_265 is_362 (by decide) rfl ?_
        refine ge_goto (tgt := 99) DX11_greedy_66 (by decide) ?_
        exact ge_iret rfl DX11_greedy_99
      · refine ge_iload_n 3 DX11_greedy_69 rfl ?_
        refine ge_iconst (v := (1 : Int32)) DX11_greedy_70 rfl ?_
        refine ge_icmp_ne (tgt := 81) DX11_greedy_71 (by decide) ?_ ?_
        · refine ge_aload_n 1 DX11_greedy_74 rfl ?_
          refine ge_getI DX11_greedy_75 fl_X11_259 is_362 (by decide) rfl ?_
          refine ge_goto (tgt := 99) DX11_greedy_78 (by decide) ?_
          exact ge_iret rfl DX11_greedy_99
        · refine ge_iload_n 3 DX11_greedy_81 rfl ?_
          refine ge_iconst (v := (2 : Int32)) DX11_greedy_82 rfl ?_
          refine ge_icmp_ne (tgt := 95) DX11_greedy_83 (by decide) ?_ ?_
          · refine ge_aload_n 1 DX11_greedy_86 rfl ?_
            refine ge_iload_n 0 DX11_greedy_87 rfl ?_
            refine ge_iload_n 2 DX11_greedy_88 rfl ?_
            refine ge_callVi0 (st := []) cm_X11_256 DX11_greedy_89 is_362 rfl (okX11_greedyBit (kl K) X m12 x8 a1) rfl rfl (Nat.le_of_ble_eq_true rfl) (by decide) ⟨rfl, rfl⟩ ⟨Nat.zero_le _, Nat.zero_le _⟩ (fun r14 m13 => ?_)
            refine ge_goto (tgt := 99) DX11_greedy_92 (by decide) ?_
            exact ge_iret rfl DX11_greedy_99
          · refine ge_aload_n 1 DX11_greedy_95 rfl ?_
            refine ge_getI DX11_greedy_96 fl_X11_262 is_362 (by decide) rfl ?_
            exact ge_iret rfl DX11_greedy_99
abbrev gX11_leastBy (rm : Room) (K : Kt) (X : Xt) := GE (R := Int32) K rm X cX11_leastBy 5 RX11 (some .int) (finM K X ιI 0 0)
set_option maxHeartbeats 4000000 in
set_option maxRecDepth 100000 in
theorem okX11_leastBy_b (d : Nat) (self : Mem → Int32 → Int32 → Option (Int32 × Mem)) (hself : ∀ (l : Launch) (X : Xt) (m0 : Mem) (a1 a2 : Int32), Ct l yX11_leastTests cX11_leastTests 6 (some .int) (rmX11_leastTests d) ιI X [.ref (xad X 362), .int a1, .int a2] m0 (self m0 a1 a2)) (l : Launch) (X : Xt) (m0 : Mem) (a1 : Int32) (a2 : Int32) (a3 : Int32) : Ct l yX11_leastBy cX11_leastBy 5 (some .int) (rmX11_leastBy d) ιI X [.ref (xad X 362), .int a1, .int a2, .int a3] m0 (fX11_leastBy_b self m0 a1 a2 a3) := by
  refine ct_of (own := RX11) (ls := [(0, .ref (xad X 362)), (1, .int a1), (2, .int a2), (3, .int a3)]) (by decide) rfl rfl (Nat.le_of_ble_eq_true rfl) (fun K => ?_)
  show gX11_leastBy (rmX11_leastBy d) K X 0 0 0 [(0, .ref (xad X 362)), (1, .int a1), (2, .int a2), (3, .int a3)] [] m0 (fX11_leastBy_b self m0 a1 a2 a3)
  delta fX11_leastBy_b
  refine ge_iload_n 2 DX11_leastBy_0 rfl ?_
  refine ge_iconst (v := (1 : Int32)) DX11_leastBy_1 rfl ?_
  refine ge_iload_n 3 DX11_leastBy_2 rfl ?_
  refine ge_ishl DX11_leastBy_3 ?_
  refine ge_iconst (v := (-1 : Int32)) DX11_leastBy_4 rfl ?_
  refine ge_ixor DX11_leastBy_5 ?_
  refine ge_iand DX11_leastBy_6 ?_
  refine ge_topi (fun x1 => ?_)
  refine ge_istore (ls' := [(4, .int x1), (0, .ref (xad X 362)), (1, .int a1), (2, .int a2), (3, .int a3)]) DX11_leastBy_7 (by decide) rfl ?_
  refine ge_iconst (v := (1 : Int32)) DX11_leastBy_9 rfl ?_
  refine ge_aload_n 1 DX11_leastBy_10 rfl ?_
  refine ge_aload_n 1 DX11_leastBy_11 rfl ?_
  refine ge_iload_n 2 DX11_leastBy_12 rfl ?_
  refine ge_iload_n 4 DX11_leastBy_13 rfl ?_
  refine ge_iconst (v := (0 : Int32)) DX11_leastBy_14 rfl ?_
  refine ge_callVi0 (st := [.ref (xad X 362), .int (1 : Int32)]) cm_X11_253 DX11_leastBy_15 is_362 rfl (okX11_side (kl K) X m0 a1 a3 (0 : Int32)) rfl rfl (Nat.le_of_ble_eq_true rfl) (by constructor <;> simp [rmX11_leastBy, rmX11_side] <;> omega) ⟨rfl, rfl⟩ ⟨Nat.zero_le _, Nat.zero_le _⟩ (fun r3 m2 => ?_)
  refine ge_iload 0 DX11_leastBy_18 rfl ?_
  refine ge_callVi0 (st := [.int (1 : Int32)]) cm_X11_280 DX11_leastBy_20 is_362 rfl (hself (kl K) X m2 r3 x1) rfl rfl (Nat.le_of_ble_eq_true rfl) (by constructor <;> simp [rmX11_leastBy, rmX11_leastTests] <;> omega) ⟨rfl, rfl⟩ ⟨Nat.zero_le _, Nat.zero_le _⟩ (fun r5 m4 => ?_)
  refine ge_iadd DX11_leastBy_23 ?_
  refine ge_aload_n 1 DX11_leastBy_24 rfl ?_
  refine ge_aload_n 1 DX11_leastBy_25 rfl ?_
  refine ge_iload_n 2 DX11_leastBy_26 rfl ?_
  refine ge_iload_n 4 DX11_leastBy_27 rfl ?_
  refine ge_iconst (v := (1 : Int32)) DX11_leastBy_28 rfl ?_
  refine ge_callVi0 (st := [.ref (xad X 362), .int ((1 : Int32) + r5)]) cm_X11_253 DX11_leastBy_29 is_362 rfl (okX11_side (kl K) X m4 a1 a3 (1 : Int32)) rfl rfl (Nat.le_of_ble_eq_true rfl) (by constructor <;> simp [rmX11_leastBy, rmX11_side] <;> omega) ⟨rfl, rfl⟩ ⟨Nat.zero_le _, Nat.zero_le _⟩ (fun r7 m6 => ?_)
  refine ge_iload 0 DX11_leastBy_32 rfl ?_
  refine ge_callVi0 (st := [.int ((1 : Int32) + r5)]) cm_X11_280 DX11_leastBy_34 is_362 rfl (hself (kl K) X m6 r7 x1) rfl rfl (Nat.le_of_ble_eq_true rfl) (by constructor <;> simp [rmX11_leastBy, rmX11_leastTests] <;> omega) ⟨rfl, rfl⟩ ⟨Nat.zero_le _, Nat.zero_le _⟩ (fun r9 m8 => ?_)
  refine ge_iadd DX11_leastBy_37 ?_
  exact ge_iret rfl DX11_leastBy_38
abbrev gX11_leastTests (rm : Room) (K : Kt) (X : Xt) := GE (R := Int32) K rm X cX11_leastTests 6 RX11 (some .int) (finM K X ιI 0 0)
set_option maxHeartbeats 4000000 in
set_option maxRecDepth 100000 in
theorem lX11_leastTests_L5 (K : Kt) (X : Xt) (d : Nat) (self : Mem → Int32 → Int32 → Int32 → Option (Int32 × Mem)) (hself : ∀ (l : Launch) (X : Xt) (m0 : Mem) (a1 a2 a3 : Int32), Ct l yX11_leastBy cX11_leastBy 5 (some .int) (rmX11_leastBy d) ιI X [.ref (xad X 362), .int a1, .int a2, .int a3] m0 (self m0 a1 a2 a3)) {k64 : Mem → Int32 → Option (Int32 × Mem)} (y2 : Int32) (y3 : Int32)  (hk64 : ∀ (m6 : Mem) (x7 : Int32), gX11_leastTests (rmX11_leastTests (d + 1)) K X 0 0 64 [(3, .int x7)] [] m6 (k64 m6 x7)) :
    ∀ (n : Nat) (m1 : Mem) (x4 : Int32) (x5 : Int32), gX11_leastTests (rmX11_leastTests (d + 1)) K X 0 0 5 [(0, .ref (xad X 362)), (1, .int y2), (2, .int y3), (3, .int x4), (4, .int x5)] [] m1 (fX11_leastTests_L5 self k64 y2 y3 n m1 x4 x5) := by
  intro n
  induction n with
  | zero => intro m1 x4 x5; exact ge_none
  | succ n ih =>
    intro m1 x4 x5
    show gX11_leastTests (rmX11_leastTests (d + 1)) K X 0 0 5 [(0, .ref (xad X 362)), (1, .int y2), (2, .int y3), (3, .int x4), (4, .int x5)] [] m1 (fX11_leastTests_L5_b self k64 y2 y3 (fX11_leastTests_L5 self k64 y2 y3 n) m1 x4 x5)
    delta fX11_leastTests_L5_b
    refine ge_iload 4 DX11_leastTests_5 rfl ?_
    refine ge_bipush (v := (12 : Int32)) DX11_leastTests_7 rfl ?_
    refine ge_icmp_ge (tgt := 64) DX11_leastTests_9 (by decide) ?_ ?_
    · refine ge_iload_n 2 DX11_leastTests_12 rfl ?_
      refine ge_iload 4 DX11_leastTests_13 rfl ?_
      refine ge_callSi0 (st := []) cm_X11_100 DX11_leastTests_15 (okX11_has (kl K) X m1 y3 x5) rfl rfl (Nat.le_of_ble_eq_true rfl) (by constructor <;> simp [rmX11_leastTests, rmX11_has] <;> omega) ⟨rfl, rfl⟩ ⟨Nat.zero_le _, Nat.zero_le _⟩ (fun r11 m10 => ?_)
      refine ge_jn (P := fun k => ∀ (m12 : Mem) (x13 : Int32), gX11_leastTests (rmX11_leastTests (d + 1)) K X 0 0 58 [(0, .ref (xad X 362)), (1, .int y2), (2, .int y3), (3, .int x13), (4, .int x5)] [] m12 (k m12 x13)) (fun m12 x13 => ?_) (fun j58 hj58 => ?_)
      · refine ge_iinc 4 (v := (x5 + (1 : Int32))) (ls' := [(4, .int (x5 + (1 : Int32))), (0, .ref (xad X 362)), (1, .int y2), (2, .int y3), (3, .int x13)]) DX11_leastTests_58 rfl rfl (by decide) rfl ?_
        refine ge_goto (tgt := 5) DX11_leastTests_61 (by decide) ?_
        refine ge_sub [1, 2, 3, 4, 0] rfl ?_
        exact ih m12 x13 (x5 + (1 : Int32))
      refine ge_if_eq (tgt := 58) DX11_leastTests_18 (by decide) ?_ ?_
      · exact hj58 m10 x4
      · refine ge_aload_n 0 DX11_leastTests_21 rfl ?_
        refine ge_iload_n 1 DX11_leastTests_22 rfl ?_
        refine ge_iload 4 DX11_leastTests_23 rfl ?_
        refine ge_callVi0 (st := []) cm_X11_250 DX11_leastTests_25 is_362 rfl (okX11_isUseful (kl K) X m10 y2 x5) rfl rfl (Nat.le_of_ble_eq_true rfl) (by constructor <;> simp [rmX11_leastTests, rmX11_isUseful] <;> omega) ⟨rfl, rfl⟩ ⟨Nat.zero_le _, Nat.zero_le _⟩ (fun r15 m14 => ?_)
        refine ge_if_eq (tgt := 58) DX11_leastTests_28 (by decide) ?_ ?_
        · exact hj58 m14 x4
        · refine ge_aload_n 0 DX11_leastTests_31 rfl ?_
          refine ge_iload_n 1 DX11_leastTests_32 rfl ?_
          refine ge_iload_n 2 DX11_leastTests_33 rfl ?_
          refine ge_iload 4 DX11_leastTests_34 rfl ?_
          refine ge_callVi0 (st := []) cm_X11_277 DX11_leastTests_36 is_362 rfl (hself (kl K) X m14 y2 y3 x5) rfl rfl (Nat.le_of_ble_eq_true rfl) (by constructor <;> simp [rmX11_leastTests, rmX11_leastBy] <;> omega) ⟨rfl, rfl⟩ ⟨Nat.zero_le _, Nat.zero_le _⟩ (fun r17 m16 => ?_)
          refine ge_istore (ls' := [(5, .int r17), (0, .ref (xad X 362)), (1, .int y2), (2, .int y3), (3, .int x4), (4, .int x5)]) DX11_leastTests_39 (by decide) rfl ?_
          refine ge_iload_n 4 DX11_leastTests_41 rfl ?_
          refine ge_jn (P := fun k => ∀ (v18 : Int32), gX11_leastTests (rmX11_leastTests (d + 1)) K X 0 0 57 [(0, .ref (xad X 362)), (1, .int y2), (2, .int y3), (4, .int x5)] [.int v18] m16 (k v18)) (fun v18 => ?_) (fun j57 hj57 => ?_)
          · refine ge_istore_n (ls' := [(3, .int v18), (0, .ref (xad X 362)), (1, .int y2), (2, .int y3), (4, .int x5)]) DX11_leastTests_57 (by decide) rfl ?_
            refine ge_sub [1, 2, 3, 0, 4] rfl ?_
            exact hj58 m16 v18
          refine ge_jn (P := fun k => gX11_leastTests (rmX11_leastTests (d + 1)) K X 0 0 51 [(0, .ref (xad X 362)), (1, .int y2), (2, .int y3), (4, .int x5), (5, .int r17)] [] m16 k) ?_ (fun j51 hj51 => ?_)
          · refine ge_iload 4 DX11_leastTests_51 rfl ?_
            refine ge_goto (tgt := 57) DX11_leastTests_53 (by decide) ?_
            refine ge_sub [0, 1, 2, 3] rfl ?_
            exact hj57 r17
          refine ge_if_lt (tgt := 51) DX11_leastTests_42 (by decide) ?_ ?_
          · refine ge_sub [1, 2, 3, 5, 0] rfl ?_
            exact hj51
          · refine ge_iload 0 DX11_leastTests_45 rfl ?_
            refine ge_iload_n 4 DX11_leastTests_47 rfl ?_
            refine ge_icmp_ge (tgt := 56) DX11_leastTests_48 (by decide) ?_ ?_
            · refine ge_sub [1, 2, 3, 5, 0] rfl ?_
              exact hj51
            · refine ge_iload_n 4 DX11_leastTests_56 rfl ?_
              refine ge_sub [1, 2, 3, 5] rfl ?_
              exact hj57 x4
    · refine ge_sub [3] rfl ?_
      exact hk64 m1 x4
set_option maxHeartbeats 4000000 in
set_option maxRecDepth 100000 in
theorem okX11_leastTests_b (d : Nat) (self : Mem → Int32 → Int32 → Int32 → Option (Int32 × Mem)) (hself : ∀ (l : Launch) (X : Xt) (m0 : Mem) (a1 a2 a3 : Int32), Ct l yX11_leastBy cX11_leastBy 5 (some .int) (rmX11_leastBy d) ιI X [.ref (xad X 362), .int a1, .int a2, .int a3] m0 (self m0 a1 a2 a3)) (l : Launch) (X : Xt) (m0 : Mem) (a1 : Int32) (a2 : Int32) : Ct l yX11_leastTests cX11_leastTests 6 (some .int) (rmX11_leastTests (d + 1)) ιI X [.ref (xad X 362), .int a1, .int a2] m0 (fX11_leastTests_b self m0 a1 a2) := by
  refine ct_of (own := RX11) (ls := [(0, .ref (xad X 362)), (1, .int a1), (2, .int a2)]) (by decide) rfl rfl (Nat.le_of_ble_eq_true rfl) (fun K => ?_)
  show gX11_leastTests (rmX11_leastTests (d + 1)) K X 0 0 0 [(0, .ref (xad X 362)), (1, .int a1), (2, .int a2)] [] m0 (fX11_leastTests_b self m0 a1 a2)
  delta fX11_leastTests_b
  refine ge_iconst (v := (-1 : Int32)) DX11_leastTests_0 rfl ?_
  refine ge_istore_n (ls' := [(3, .int (-1 : Int32)), (0, .ref (xad X 362)), (1, .int a1), (2, .int a2)]) DX11_leastTests_1 (by decide) rfl ?_
  refine ge_iconst (v := (0 : Int32)) DX11_leastTests_2 rfl ?_
  refine ge_istore (ls' := [(4, .int (0 : Int32)), (3, .int (-1 : Int32)), (0, .ref (xad X 362)), (1, .int a1), (2, .int a2)]) DX11_leastTests_3 (by decide) rfl ?_
  refine ge_sub [2, 3, 4, 1, 0] rfl ?_
  refine lX11_leastTests_L5 K X d self hself a1 a2 (fun m8 x9 => ?_) 5000 m0 (-1 : Int32) (0 : Int32)
  · refine ge_iload_n 0 DX11_leastTests_64 rfl ?_
    refine ge_if_ge (tgt := 72) DX11_leastTests_65 (by decide) ?_ ?_
    · refine ge_iconst (v := (0 : Int32)) DX11_leastTests_68 rfl ?_
      refine ge_goto (tgt := 73) DX11_leastTests_69 (by decide) ?_
      exact ge_iret rfl DX11_leastTests_73
    · refine ge_iload_n 0 DX11_leastTests_72 rfl ?_
      exact ge_iret rfl DX11_leastTests_73
theorem okX11_leastTests (d : Nat) : ∀ (l : Launch) (X : Xt) (m0 : Mem) (a1 a2 : Int32), Ct l yX11_leastTests cX11_leastTests 6 (some .int) (rmX11_leastTests d) ιI X [.ref (xad X 362), .int a1, .int a2] m0 (fX11_leastTests d m0 a1 a2) := by
  induction d with
  | zero => intro l X m0 a1 a2 r σ' h; cases h
  | succ d ih => intro l X m0 a1 a2; exact okX11_leastTests_b d (fX11_leastBy_b (fX11_leastTests d)) (fun l X m0 a1 a2 a3 => okX11_leastBy_b d (fX11_leastTests d) ih l X m0 a1 a2 a3) l X m0 a1 a2
theorem okX11_leastBy (d : Nat) (l : Launch) (X : Xt) (m0 : Mem) (a1 a2 a3 : Int32) : Ct l yX11_leastBy cX11_leastBy 5 (some .int) (rmX11_leastBy d) ιI X [.ref (xad X 362), .int a1, .int a2, .int a3] m0 (fX11_leastBy d m0 a1 a2 a3) := okX11_leastBy_b d (fX11_leastTests d) (okX11_leastTests d) l X m0 a1 a2 a3
abbrev gX11_least (K : Kt) (X : Xt) := GE (R := Int32) K rmX11_least X cX11_least 6 RX11 (some .int) (finM K X ιI 0 0)
set_option maxHeartbeats 4000000 in
set_option maxRecDepth 100000 in
theorem lX11_least_L53 (K : Kt) (X : Xt) {k90 : Mem → Int32 → Option (Int32 × Mem)} {k99 : Mem → Option (Int32 × Mem)} (y12 : Int32) (y13 : Int32) (y14 : Int32)  (hk90 : ∀ (m16 : Mem) (x17 : Int32), gX11_least K X 0 0 90 [(5, .int x17)] [] m16 (k90 m16 x17)) (hk99 : ∀ (m20 : Mem), gX11_least K X 0 0 99 [] [] m20 (k99 m20)) :
    ∀ (n : Nat) (m11 : Mem) (x15 : Int32), gX11_least K X 0 0 53 [(0, .ref (xad X 362)), (1, .int y12), (3, .int y13), (4, .int y14), (5, .int x15)] [] m11 (fX11_least_L53 k90 k99 y12 y13 y14 n m11 x15) := by
  intro n
  induction n with
  | zero => intro m11 x15; exact ge_none
  | succ n ih =>
    intro m11 x15
    show gX11_least K X 0 0 53 [(0, .ref (xad X 362)), (1, .int y12), (3, .int y13), (4, .int y14), (5, .int x15)] [] m11 (fX11_least_L53_b k90 k99 y12 y13 y14 (fX11_least_L53 k90 k99 y12 y13 y14 n) m11 x15)
    delta fX11_least_L53_b
    refine ge_iload 4 DX11_least_53 rfl ?_
    refine ge_if_lt (tgt := 99) DX11_least_55 (by decide) ?_ ?_
    · refine ge_sub [] rfl ?_
      exact hk99 m11
    · refine ge_iload_n 1 DX11_least_58 rfl ?_
      refine ge_iload 4 DX11_least_59 rfl ?_
      refine ge_callSi0 (st := []) cm_X11_100 DX11_least_61 (okX11_has (kl K) X m11 y12 x15) rfl rfl (Nat.le_of_ble_eq_true rfl) (by decide) ⟨rfl, rfl⟩ ⟨Nat.zero_le _, Nat.zero_le _⟩ (fun r23 m22 => ?_)
      refine ge_jn (P := fun k => ∀ (m24 : Mem), gX11_least K X 0 0 93 [(0, .ref (xad X 362)), (1, .int y12), (3, .int y13), (4, .int y14), (5, .int x15)] [] m24 (k m24)) (fun m24 => ?_) (fun j93 hj93 => ?_)
      · refine ge_iinc 4 (v := (x15 + (-1 : Int32))) (ls' := [(5, .int (x15 + (-1 : Int32))), (0, .ref (xad X 362)), (1, .int y12), (3, .int y13), (4, .int y14)]) DX11_least_93 rfl rfl (by decide) rfl ?_
        refine ge_goto (tgt := 53) DX11_least_96 (by decide) ?_
        refine ge_sub [1, 2, 3, 4, 0] rfl ?_
        exact ih m24 (x15 + (-1 : Int32))
      refine ge_if_eq (tgt := 93) DX11_least_64 (by decide) ?_ ?_
      · exact hj93 m22
      · refine ge_aload_n 0 DX11_least_67 rfl ?_
        refine ge_iload_n 2 DX11_least_68 rfl ?_
        refine ge_iload 4 DX11_least_69 rfl ?_
        refine ge_callVi0 (st := []) cm_X11_250 DX11_least_71 is_362 rfl (okX11_isUseful (kl K) X m22 y13 x15) rfl rfl (Nat.le_of_ble_eq_true rfl) (by decide) ⟨rfl, rfl⟩ ⟨Nat.zero_le _, Nat.zero_le _⟩ (fun r26 m25 => ?_)
        refine ge_if_eq (tgt := 93) DX11_least_74 (by decide) ?_ ?_
        · exact hj93 m25
        · refine ge_aload_n 0 DX11_least_77 rfl ?_
          refine ge_iload_n 2 DX11_least_78 rfl ?_
          refine ge_iload_n 1 DX11_least_79 rfl ?_
          refine ge_iload 4 DX11_least_80 rfl ?_
          refine ge_callVi0 (st := []) cm_X11_277 DX11_least_82 is_362 rfl (okX11_leastBy 8 (kl K) X m25 y13 y12 x15) rfl rfl (Nat.le_of_ble_eq_true rfl) (by decide) ⟨rfl, rfl⟩ ⟨Nat.zero_le _, Nat.zero_le _⟩ (fun r28 m27 => ?_)
          refine ge_iload 3 DX11_least_85 rfl ?_
          refine ge_icmp_ne (tgt := 93) DX11_least_87 (by decide) ?_ ?_
          · refine ge_sub [4] rfl ?_
            exact hk90 m27 x15
          · exact hj93 m27
set_option maxHeartbeats 4000000 in
set_option maxRecDepth 100000 in
theorem okX11_least (l : Launch) (X : Xt) (m0 : Mem) (a1 : Int32) (a2 : Int32) : Ct l yX11_least cX11_least 6 (some .int) rmX11_least ιI X [.ref (xad X 362), .int a1, .int a2] m0 (fX11_least m0 a1 a2) := by
  refine ct_of (own := RX11) (ls := [(0, .ref (xad X 362)), (1, .int a1), (2, .int a2)]) (by decide) rfl rfl (Nat.le_of_ble_eq_true rfl) (fun K => ?_)
  show gX11_least K X 0 0 0 [(0, .ref (xad X 362)), (1, .int a1), (2, .int a2)] [] m0 (fX11_least m0 a1 a2)
  delta fX11_least
  refine ge_iload_n 1 DX11_least_0 rfl ?_
  refine ge_callSi0 (st := []) cm_X11_272 DX11_least_1 (okX11_isTests (kl K) X m0 a1) rfl rfl (Nat.le_of_ble_eq_true rfl) (by decide) ⟨rfl, rfl⟩ ⟨Nat.zero_le _, Nat.zero_le _⟩ (fun r2 m1 => ?_)
  refine ge_jn (P := fun k => ∀ (m3 : Mem), gX11_least K X 0 0 17 [(0, .ref (xad X 362))] [] m3 (k m3)) (fun m3 => ?_) (fun j17 hj17 => ?_)
  · refine ge_aload_n 0 DX11_least_17 rfl ?_
    refine ge_sipush (v := (-1001 : Int32)) DX11_least_18 rfl ?_
    refine ge_callVi0 (st := []) cm_X11_145 DX11_least_21 is_362 rfl (okX11_refuse (kl K) X m3 (-1001 : Int32)) rfl rfl (Nat.le_of_ble_eq_true rfl) (by decide) ⟨rfl, rfl⟩ ⟨Nat.zero_le _, Nat.zero_le _⟩ (fun r5 m4 => ?_)
    exact ge_iret rfl DX11_least_24
  refine ge_if_eq (tgt := 17) DX11_least_4 (by decide) ?_ ?_
  · refine ge_sub [0] rfl ?_
    exact hj17 m1
  · refine ge_iload_n 2 DX11_least_7 rfl ?_
    refine ge_i2l DX11_least_8 ?_
    refine ge_lconst (v := (0 : Int64)) DX11_least_9 rfl ?_
    refine ge_lconst (v := (1 : Int64)) DX11_least_10 rfl ?_
    refine ge_callSi0 (st := []) cm_X11_89 DX11_least_11 (okX11_isIn (kl K) X m1 ((a2).toInt64) (0 : Int64) (1 : Int64)) rfl rfl (Nat.le_of_ble_eq_true rfl) (by decide) ⟨rfl, rfl⟩ ⟨Nat.zero_le _, Nat.zero_le _⟩ (fun r7 m6 => ?_)
    refine ge_if_ne (tgt := 25) DX11_least_14 (by decide) ?_ ?_
    · refine ge_sub [0] rfl ?_
      exact hj17 m6
    · refine ge_iconst (v := (1 : Int32)) DX11_least_25 rfl ?_
      refine ge_aload_n 0 DX11_least_26 rfl ?_
      refine ge_getI DX11_least_27 fl_X11_76 is_362 (by decide) rfl ?_
      refine ge_ishl DX11_least_30 ?_
      refine ge_iconst (v := (1 : Int32)) DX11_least_31 rfl ?_
      refine ge_isub DX11_least_32 ?_
      refine ge_topi (fun x8 => ?_)
      refine ge_istore_n (ls' := [(3, .int x8), (0, .ref (xad X 362)), (1, .int a1), (2, .int a2)]) DX11_least_33 (by decide) rfl ?_
      refine ge_aload_n 1 DX11_least_34 rfl ?_
      refine ge_iload_n 0 DX11_least_35 rfl ?_
      refine ge_iload_n 2 DX11_least_36 rfl ?_
      refine ge_callVi0 (st := []) cm_X11_280 DX11_least_37 is_362 rfl (okX11_leastTests 8 (kl K) X m6 x8 a1) rfl rfl (Nat.le_of_ble_eq_true rfl) (by decide) ⟨rfl, rfl⟩ ⟨Nat.zero_le _, Nat.zero_le _⟩ (fun r10 m9 => ?_)
      refine ge_istore (ls' := [(4, .int r10), (3, .int x8), (0, .ref (xad X 362)), (1, .int a1), (2, .int a2)]) DX11_least_40 (by decide) rfl ?_
      refine ge_iload_n 4 DX11_least_42 rfl ?_
      refine ge_if_ne (tgt := 49) DX11_least_43 (by decide) ?_ ?_
      · refine ge_iload 0 DX11_least_46 rfl ?_
        exact ge_iret rfl DX11_least_48
      · refine ge_bipush (v := (11 : Int32)) DX11_least_49 rfl ?_
        refine ge_istore (ls' := [(5, .int (11 : Int32)), (4, .int r10), (3, .int x8), (0, .ref (xad X 362)), (1, .int a1), (2, .int a2)]) DX11_least_51 (by decide) rfl ?_
        refine ge_sub [3, 4, 2, 1, 0] rfl ?_
        refine lX11_least_L53 K X a1 x8 r10 (fun m18 x19 => ?_) (fun m21 => ?_) 5000 m9 (11 : Int32)
        · refine ge_iload 0 DX11_least_90 rfl ?_
          exact ge_iret rfl DX11_least_92
        · refine ge_iconst (v := (-1 : Int32)) DX11_least_99 rfl ?_
          exact ge_iret rfl DX11_least_100
abbrev gX11_leaf (K : Kt) (X : Xt) := GE (R := Int32) K rmX11_leaf X cX11_leaf 6 RX11 (some .int) (finM K X ιI 0 0)
set_option maxHeartbeats 4000000 in
set_option maxRecDepth 100000 in
theorem lX11_leaf_L43 (K : Kt) (X : Xt) {k85 : Mem → Int32 → Option (Int32 × Mem)} (y12 : Int32)  (hk85 : ∀ (m16 : Mem) (x17 : Int32), gX11_leaf K X 0 0 85 [(3, .int x17)] [] m16 (k85 m16 x17)) :
    ∀ (n : Nat) (m11 : Mem) (x13 : Int32) (x14 : Int32) (x15 : Int32), gX11_leaf K X 0 0 43 [(0, .ref (xad X 362)), (2, .int y12), (3, .int x13), (4, .int x14), (5, .int x15)] [] m11 (fX11_leaf_L43 k85 y12 n m11 x13 x14 x15) := by
  intro n
  induction n with
  | zero => intro m11 x13 x14 x15; exact ge_none
  | succ n ih =>
    intro m11 x13 x14 x15
    show gX11_leaf K X 0 0 43 [(0, .ref (xad X 362)), (2, .int y12), (3, .int x13), (4, .int x14), (5, .int x15)] [] m11 (fX11_leaf_L43_b k85 y12 (fX11_leaf_L43 k85 y12 n) m11 x13 x14 x15)
    delta fX11_leaf_L43_b
    refine ge_iload 4 DX11_leaf_43 rfl ?_
    refine ge_if_lt (tgt := 85) DX11_leaf_45 (by decide) ?_ ?_
    · refine ge_sub [2] rfl ?_
      exact hk85 m11 x13
    · refine ge_aload_n 0 DX11_leaf_48 rfl ?_
      refine ge_iload_n 2 DX11_leaf_49 rfl ?_
      refine ge_iload 4 DX11_leaf_50 rfl ?_
      refine ge_iload_n 1 DX11_leaf_52 rfl ?_
      refine ge_iload 4 DX11_leaf_53 rfl ?_
      refine ge_ishr DX11_leaf_55 ?_
      refine ge_iconst (v := (1 : Int32)) DX11_leaf_56 rfl ?_
      refine ge_iand DX11_leaf_57 ?_
      refine ge_callVi0 (st := []) cm_X11_253 DX11_leaf_58 is_362 rfl (okX11_side (kl K) X m11 x13 x15 ((y12 >>> (x15 &&& 31)) &&& (1 : Int32))) rfl rfl (Nat.le_of_ble_eq_true rfl) (by decide) ⟨rfl, rfl⟩ ⟨Nat.zero_le _, Nat.zero_le _⟩ (fun r21 m20 => ?_)
      refine ge_istore_n (ls' := [(3, .int r21), (0, .ref (xad X 362)), (2, .int y12), (4, .int x14), (5, .int x15)]) DX11_leaf_61 (by decide) rfl ?_
      refine ge_iload 3 DX11_leaf_62 rfl ?_
      refine ge_iconst (v := (1 : Int32)) DX11_leaf_64 rfl ?_
      refine ge_iload 4 DX11_leaf_65 rfl ?_
      refine ge_ishl DX11_leaf_67 ?_
      refine ge_iconst (v := (-1 : Int32)) DX11_leaf_68 rfl ?_
      refine ge_ixor DX11_leaf_69 ?_
      refine ge_iand DX11_leaf_70 ?_
      refine ge_topi (fun x22 => ?_)
      refine ge_istore (ls' := [(4, .int x22), (3, .int r21), (0, .ref (xad X 362)), (2, .int y12), (5, .int x15)]) DX11_leaf_71 (by decide) rfl ?_
      refine ge_aload_n 2 DX11_leaf_73 rfl ?_
      refine ge_iload_n 1 DX11_leaf_74 rfl ?_
      refine ge_iload 0 DX11_leaf_75 rfl ?_
      refine ge_callVi0 (st := []) cm_X11_256 DX11_leaf_77 is_362 rfl (okX11_greedyBit (kl K) X m20 r21 x22) rfl rfl (Nat.le_of_ble_eq_true rfl) (by decide) ⟨rfl, rfl⟩ ⟨Nat.zero_le _, Nat.zero_le _⟩ (fun r24 m23 => ?_)
      refine ge_istore (ls' := [(5, .int r24), (4, .int x22), (3, .int r21), (0, .ref (xad X 362)), (2, .int y12)]) DX11_leaf_80 (by decide) rfl ?_
      refine ge_goto (tgt := 43) DX11_leaf_82 (by decide) ?_
      refine ge_sub [3, 4, 2, 1, 0] rfl ?_
      exact ih m23 r21 x22 r24
set_option maxHeartbeats 4000000 in
set_option maxRecDepth 100000 in
theorem okX11_leaf (l : Launch) (X : Xt) (m0 : Mem) (a1 : Int32) (a2 : Int32) : Ct l yX11_leaf cX11_leaf 6 (some .int) rmX11_leaf ιI X [.ref (xad X 362), .int a1, .int a2] m0 (fX11_leaf m0 a1 a2) := by
  refine ct_of (own := RX11) (ls := [(0, .ref (xad X 362)), (1, .int a1), (2, .int a2)]) (by decide) rfl rfl (Nat.le_of_ble_eq_true rfl) (fun K => ?_)
  show gX11_leaf K X 0 0 0 [(0, .ref (xad X 362)), (1, .int a1), (2, .int a2)] [] m0 (fX11_leaf m0 a1 a2)
  delta fX11_leaf
  refine ge_iload_n 1 DX11_leaf_0 rfl ?_
  refine ge_callSi0 (st := []) cm_X11_272 DX11_leaf_1 (okX11_isTests (kl K) X m0 a1) rfl rfl (Nat.le_of_ble_eq_true rfl) (by decide) ⟨rfl, rfl⟩ ⟨Nat.zero_le _, Nat.zero_le _⟩ (fun r2 m1 => ?_)
  refine ge_jn (P := fun k => ∀ (m3 : Mem), gX11_leaf K X 0 0 14 [(0, .ref (xad X 362))] [] m3 (k m3)) (fun m3 => ?_) (fun j14 hj14 => ?_)
  · refine ge_aload_n 0 DX11_leaf_14 rfl ?_
    refine ge_sipush (v := (-1001 : Int32)) DX11_leaf_15 rfl ?_
    refine ge_callVi0 (st := []) cm_X11_145 DX11_leaf_18 is_362 rfl (okX11_refuse (kl K) X m3 (-1001 : Int32)) rfl rfl (Nat.le_of_ble_eq_true rfl) (by decide) ⟨rfl, rfl⟩ ⟨Nat.zero_le _, Nat.zero_le _⟩ (fun r5 m4 => ?_)
    exact ge_iret rfl DX11_leaf_21
  refine ge_if_eq (tgt := 14) DX11_leaf_4 (by decide) ?_ ?_
  · refine ge_sub [0] rfl ?_
    exact hj14 m1
  · refine ge_iload_n 2 DX11_leaf_7 rfl ?_
    refine ge_callSi0 (st := []) cm_X11_229 DX11_leaf_8 (okX11_isWord (kl K) X m1 a2) rfl rfl (Nat.le_of_ble_eq_true rfl) (by decide) ⟨rfl, rfl⟩ ⟨Nat.zero_le _, Nat.zero_le _⟩ (fun r7 m6 => ?_)
    refine ge_if_ne (tgt := 22) DX11_leaf_11 (by decide) ?_ ?_
    · refine ge_sub [0] rfl ?_
      exact hj14 m6
    · refine ge_iconst (v := (1 : Int32)) DX11_leaf_22 rfl ?_
      refine ge_aload_n 0 DX11_leaf_23 rfl ?_
      refine ge_getI DX11_leaf_24 fl_X11_76 is_362 (by decide) rfl ?_
      refine ge_ishl DX11_leaf_27 ?_
      refine ge_iconst (v := (1 : Int32)) DX11_leaf_28 rfl ?_
      refine ge_isub DX11_leaf_29 ?_
      refine ge_topi (fun x8 => ?_)
      refine ge_istore_n (ls' := [(3, .int x8), (0, .ref (xad X 362)), (1, .int a1), (2, .int a2)]) DX11_leaf_30 (by decide) rfl ?_
      refine ge_iload_n 2 DX11_leaf_31 rfl ?_
      refine ge_istore (ls' := [(4, .int a1), (3, .int x8), (0, .ref (xad X 362)), (1, .int a1), (2, .int a2)]) DX11_leaf_32 (by decide) rfl ?_
      refine ge_aload_n 2 DX11_leaf_34 rfl ?_
      refine ge_iload_n 1 DX11_leaf_35 rfl ?_
      refine ge_iload 0 DX11_leaf_36 rfl ?_
      refine ge_callVi0 (st := []) cm_X11_256 DX11_leaf_38 is_362 rfl (okX11_greedyBit (kl K) X m6 x8 a1) rfl rfl (Nat.le_of_ble_eq_true rfl) (by decide) ⟨rfl, rfl⟩ ⟨Nat.zero_le _, Nat.zero_le _⟩ (fun r10 m9 => ?_)
      refine ge_istore (ls' := [(5, .int r10), (4, .int a1), (3, .int x8), (0, .ref (xad X 362)), (1, .int a1), (2, .int a2)]) DX11_leaf_41 (by decide) rfl ?_
      refine ge_sub [3, 5, 2, 1, 0] rfl ?_
      refine lX11_leaf_L43 K X a2 (fun m18 x19 => ?_) 5000 m9 x8 a1 r10
      · refine ge_iload_n 0 DX11_leaf_85 rfl ?_
        exact ge_iret rfl DX11_leaf_86
abbrev gX11_field (K : Kt) (X : Xt) := GE (R := Int32) K rmX11_field X cX11_field 6 RX11 (some .int) (finM K X ιI 0 0)
set_option maxHeartbeats 4000000 in
set_option maxRecDepth 100000 in
theorem lX11_field_L58 (K : Kt) (X : Xt) {k75 : Mem → Int32 → Option (Int32 × Mem)} (y13 : Int32) (y14 : Int32) (y15 : Int32) (y16 : Int32)  (hk75 : ∀ (m18 : Mem) (x19 : Int32), gX11_field K X 0 0 75 [(3, .int y15), (4, .int y16), (5, .int x19)] [] m18 (k75 m18 x19)) :
    ∀ (n : Nat) (m12 : Mem) (x17 : Int32), gX11_field K X 0 0 58 [(0, .ref (xad X 362)), (1, .int y13), (2, .int y14), (3, .int y15), (4, .int y16), (5, .int x17)] [] m12 (fX11_field_L58 k75 y13 y14 y15 y16 n m12 x17) := by
  intro n
  induction n with
  | zero => intro m12 x17; exact ge_none
  | succ n ih =>
    intro m12 x17
    show gX11_field K X 0 0 58 [(0, .ref (xad X 362)), (1, .int y13), (2, .int y14), (3, .int y15), (4, .int y16), (5, .int x17)] [] m12 (fX11_field_L58_b k75 y13 y14 y15 y16 (fX11_field_L58 k75 y13 y14 y15 y16 n) m12 x17)
    delta fX11_field_L58_b
    refine ge_aload_n 0 DX11_field_58 rfl ?_
    refine ge_iload_n 1 DX11_field_59 rfl ?_
    refine ge_iload 5 DX11_field_60 rfl ?_
    refine ge_callVi0 (st := []) cm_X11_283 DX11_field_62 is_362 rfl (okX11_fieldAt (kl K) X m12 y13 x17) rfl rfl (Nat.le_of_ble_eq_true rfl) (by decide) ⟨rfl, rfl⟩ ⟨Nat.zero_le _, Nat.zero_le _⟩ (fun r25 m24 => ?_)
    refine ge_iload_n 2 DX11_field_65 rfl ?_
    refine ge_icmp_eq (tgt := 75) DX11_field_66 (by decide) ?_ ?_
    · refine ge_sub [3, 4, 5] rfl ?_
      exact hk75 m24 x17
    · refine ge_iinc 5 (v := (x17 + (1 : Int32))) (ls' := [(5, .int (x17 + (1 : Int32))), (0, .ref (xad X 362)), (1, .int y13), (2, .int y14), (3, .int y15), (4, .int y16)]) DX11_field_69 rfl rfl (by decide) rfl ?_
      refine ge_goto (tgt := 58) DX11_field_72 (by decide) ?_
      refine ge_sub [1, 2, 3, 4, 5, 0] rfl ?_
      exact ih m24 (x17 + (1 : Int32))
set_option maxHeartbeats 4000000 in
set_option maxRecDepth 100000 in
theorem okX11_field (l : Launch) (X : Xt) (m0 : Mem) (a1 : Int32) (a2 : Int32) (a3 : Int32) : Ct l yX11_field cX11_field 6 (some .int) rmX11_field ιI X [.ref (xad X 362), .int a1, .int a2, .int a3] m0 (fX11_field m0 a1 a2 a3) := by
  refine ct_of (own := RX11) (ls := [(0, .ref (xad X 362)), (1, .int a1), (2, .int a2), (3, .int a3)]) (by decide) rfl rfl (Nat.le_of_ble_eq_true rfl) (fun K => ?_)
  show gX11_field K X 0 0 0 [(0, .ref (xad X 362)), (1, .int a1), (2, .int a2), (3, .int a3)] [] m0 (fX11_field m0 a1 a2 a3)
  delta fX11_field
  refine ge_aload_n 0 DX11_field_0 rfl ?_
  refine ge_iload_n 1 DX11_field_1 rfl ?_
  refine ge_callVi0 (st := []) cm_X11_206 DX11_field_2 is_362 rfl (okX11_isForm (kl K) X m0 a1) rfl rfl (Nat.le_of_ble_eq_true rfl) (by decide) ⟨rfl, rfl⟩ ⟨Nat.zero_le _, Nat.zero_le _⟩ (fun r2 m1 => ?_)
  refine ge_jn (P := fun k => ∀ (m3 : Mem), gX11_field K X 0 0 32 [(0, .ref (xad X 362))] [] m3 (k m3)) (fun m3 => ?_) (fun j32 hj32 => ?_)
  · refine ge_aload_n 0 DX11_field_32 rfl ?_
    refine ge_sipush (v := (-1001 : Int32)) DX11_field_33 rfl ?_
    refine ge_callVi0 (st := []) cm_X11_145 DX11_field_36 is_362 rfl (okX11_refuse (kl K) X m3 (-1001 : Int32)) rfl rfl (Nat.le_of_ble_eq_true rfl) (by decide) ⟨rfl, rfl⟩ ⟨Nat.zero_le _, Nat.zero_le _⟩ (fun r5 m4 => ?_)
    exact ge_iret rfl DX11_field_39
  refine ge_if_eq (tgt := 32) DX11_field_5 (by decide) ?_ ?_
  · refine ge_sub [0] rfl ?_
    exact hj32 m1
  · refine ge_iload_n 2 DX11_field_8 rfl ?_
    refine ge_i2l DX11_field_9 ?_
    refine ge_lconst (v := (0 : Int64)) DX11_field_10 rfl ?_
    refine ge_ldc2 (v := (7 : Int64)) kw_X11_87 DX11_field_11 ?_
    refine ge_callSi0 (st := []) cm_X11_89 DX11_field_14 (okX11_isIn (kl K) X m1 ((a2).toInt64) (0 : Int64) (7 : Int64)) rfl rfl (Nat.le_of_ble_eq_true rfl) (by decide) ⟨rfl, rfl⟩ ⟨Nat.zero_le _, Nat.zero_le _⟩ (fun r7 m6 => ?_)
    refine ge_if_eq (tgt := 32) DX11_field_17 (by decide) ?_ ?_
    · refine ge_sub [0] rfl ?_
      exact hj32 m6
    · refine ge_iload_n 3 DX11_field_20 rfl ?_
      refine ge_i2l DX11_field_21 ?_
      refine ge_lconst (v := (0 : Int64)) DX11_field_22 rfl ?_
      refine ge_ldc2 (v := (2 : Int64)) kw_X11_245 DX11_field_23 ?_
      refine ge_callSi0 (st := []) cm_X11_89 DX11_field_26 (okX11_isIn (kl K) X m6 ((a3).toInt64) (0 : Int64) (2 : Int64)) rfl rfl (Nat.le_of_ble_eq_true rfl) (by decide) ⟨rfl, rfl⟩ ⟨Nat.zero_le _, Nat.zero_le _⟩ (fun r9 m8 => ?_)
      refine ge_if_ne (tgt := 40) DX11_field_29 (by decide) ?_ ?_
      · refine ge_sub [0] rfl ?_
        exact hj32 m8
      · refine ge_aload_n 0 DX11_field_40 rfl ?_
        refine ge_iload_n 1 DX11_field_41 rfl ?_
        refine ge_iload_n 2 DX11_field_42 rfl ?_
        refine ge_callVi0 (st := []) cm_X11_93 DX11_field_43 is_362 rfl (okX11_bitsOf (kl K) X m8 a1 a2) rfl rfl (Nat.le_of_ble_eq_true rfl) (by decide) ⟨rfl, rfl⟩ ⟨Nat.zero_le _, Nat.zero_le _⟩ (fun r11 m10 => ?_)
        refine ge_istore (ls' := [(4, .int r11), (0, .ref (xad X 362)), (1, .int a1), (2, .int a2), (3, .int a3)]) DX11_field_46 (by decide) rfl ?_
        refine ge_iload 0 DX11_field_48 rfl ?_
        refine ge_if_ne (tgt := 55) DX11_field_50 (by decide) ?_ ?_
        · refine ge_iconst (v := (-1 : Int32)) DX11_field_53 rfl ?_
          exact ge_iret rfl DX11_field_54
        · refine ge_iconst (v := (0 : Int32)) DX11_field_55 rfl ?_
          refine ge_istore (ls' := [(5, .int (0 : Int32)), (4, .int r11), (0, .ref (xad X 362)), (1, .int a1), (2, .int a2), (3, .int a3)]) DX11_field_56 (by decide) rfl ?_
          refine ge_sub [2, 3, 4, 5, 1, 0] rfl ?_
          refine lX11_field_L58 K X a1 a2 a3 r11 (fun m20 x21 => ?_) 5000 m10 (0 : Int32)
          · refine ge_iload_n 0 DX11_field_75 rfl ?_
            refine ge_if_ne (tgt := 87) DX11_field_76 (by decide) ?_ ?_
            · refine ge_iload 1 DX11_field_79 rfl ?_
              refine ge_callSi0 (st := []) cm_X11_104 DX11_field_81 (okX11_size (kl K) X m20 r11) rfl rfl (Nat.le_of_ble_eq_true rfl) (by decide) ⟨rfl, rfl⟩ ⟨Nat.zero_le _, Nat.zero_le _⟩ (fun r23 m22 => ?_)
              refine ge_goto (tgt := 99) DX11_field_84 (by decide) ?_
              exact ge_iret rfl DX11_field_99
            · refine ge_iload_n 0 DX11_field_87 rfl ?_
              refine ge_iconst (v := (1 : Int32)) DX11_field_88 rfl ?_
              refine ge_icmp_ne (tgt := 97) DX11_field_89 (by decide) ?_ ?_
              · refine ge_iload 1 DX11_field_92 rfl ?_
                refine ge_goto (tgt := 99) DX11_field_94 (by decide) ?_
                exact ge_iret rfl DX11_field_99
              · refine ge_iload 2 DX11_field_97 rfl ?_
                exact ge_iret rfl DX11_field_99
abbrev gX11_taken (K : Kt) (X : Xt) := GE (R := Int32) K rmX11_taken X cX11_taken 4 RX11 (some .int) (finM K X ιI 0 0)
set_option maxHeartbeats 4000000 in
set_option maxRecDepth 100000 in
theorem okX11_taken (l : Launch) (X : Xt) (m0 : Mem) (a1 : Int32) (a2 : Int32) (a3 : Int32) : Ct l yX11_taken cX11_taken 4 (some .int) rmX11_taken ιI X [.ref (xad X 362), .int a1, .int a2, .int a3] m0 (fX11_taken m0 a1 a2 a3) := by
  refine ct_of (own := RX11) (ls := [(0, .ref (xad X 362)), (1, .int a1), (2, .int a2), (3, .int a3)]) (by decide) rfl rfl (Nat.le_of_ble_eq_true rfl) (fun K => ?_)
  show gX11_taken K X 0 0 0 [(0, .ref (xad X 362)), (1, .int a1), (2, .int a2), (3, .int a3)] [] m0 (fX11_taken m0 a1 a2 a3)
  delta fX11_taken
  refine ge_aload_n 0 DX11_taken_0 rfl ?_
  refine ge_iload_n 1 DX11_taken_1 rfl ?_
  refine ge_callVi0 (st := []) cm_X11_206 DX11_taken_2 is_362 rfl (okX11_isForm (kl K) X m0 a1) rfl rfl (Nat.le_of_ble_eq_true rfl) (by decide) ⟨rfl, rfl⟩ ⟨Nat.zero_le _, Nat.zero_le _⟩ (fun r2 m1 => ?_)
  refine ge_jn (P := fun k => ∀ (m3 : Mem), gX11_taken K X 0 0 34 [(0, .ref (xad X 362))] [] m3 (k m3)) (fun m3 => ?_) (fun j34 hj34 => ?_)
  · refine ge_aload_n 0 DX11_taken_34 rfl ?_
    refine ge_sipush (v := (-1001 : Int32)) DX11_taken_35 rfl ?_
    refine ge_callVi0 (st := []) cm_X11_145 DX11_taken_38 is_362 rfl (okX11_refuse (kl K) X m3 (-1001 : Int32)) rfl rfl (Nat.le_of_ble_eq_true rfl) (by decide) ⟨rfl, rfl⟩ ⟨Nat.zero_le _, Nat.zero_le _⟩ (fun r5 m4 => ?_)
    exact ge_iret rfl DX11_taken_41
  refine ge_if_eq (tgt := 34) DX11_taken_5 (by decide) ?_ ?_
  · refine ge_sub [0] rfl ?_
    exact hj34 m1
  · refine ge_aload_n 0 DX11_taken_8 rfl ?_
    refine ge_iload_n 1 DX11_taken_9 rfl ?_
    refine ge_iload_n 2 DX11_taken_10 rfl ?_
    refine ge_callVi0 (st := []) cm_X11_286 DX11_taken_11 is_362 rfl (okX11_isField (kl K) X m1 a1 a2) rfl rfl (Nat.le_of_ble_eq_true rfl) (by decide) ⟨rfl, rfl⟩ ⟨Nat.zero_le _, Nat.zero_le _⟩ (fun r7 m6 => ?_)
    refine ge_if_eq (tgt := 34) DX11_taken_14 (by decide) ?_ ?_
    · refine ge_sub [0] rfl ?_
      exact hj34 m6
    · refine ge_iload_n 3 DX11_taken_17 rfl ?_
      refine ge_callSi0 (st := []) cm_X11_229 DX11_taken_18 (okX11_isWord (kl K) X m6 a3) rfl rfl (Nat.le_of_ble_eq_true rfl) (by decide) ⟨rfl, rfl⟩ ⟨Nat.zero_le _, Nat.zero_le _⟩ (fun r9 m8 => ?_)
      refine ge_if_eq (tgt := 34) DX11_taken_21 (by decide) ?_ ?_
      · refine ge_sub [0] rfl ?_
        exact hj34 m8
      · refine ge_aload_n 0 DX11_taken_24 rfl ?_
        refine ge_iload_n 1 DX11_taken_25 rfl ?_
        refine ge_iload_n 2 DX11_taken_26 rfl ?_
        refine ge_iload_n 3 DX11_taken_27 rfl ?_
        refine ge_callVi0 (st := []) cm_X11_107 DX11_taken_28 is_362 rfl (okX11_stands (kl K) X m8 a1 a2 a3) rfl rfl (Nat.le_of_ble_eq_true rfl) (by decide) ⟨rfl, rfl⟩ ⟨Nat.zero_le _, Nat.zero_le _⟩ (fun r11 m10 => ?_)
        refine ge_goto (tgt := 41) DX11_taken_31 (by decide) ?_
        exact ge_iret rfl DX11_taken_41
abbrev gX11_laid (K : Kt) (X : Xt) := GE (R := Int32) K rmX11_laid X cX11_laid 6 RX11 (some .int) (finM K X ιI 0 0)
set_option maxHeartbeats 4000000 in
set_option maxRecDepth 100000 in
theorem okX11_laid (l : Launch) (X : Xt) (m0 : Mem) (a1 : Int32) (a2 : Int32) (a3 : Int32) (a4 : Int32) : Ct l yX11_laid cX11_laid 6 (some .int) rmX11_laid ιI X [.ref (xad X 362), .int a1, .int a2, .int a3, .int a4] m0 (fX11_laid m0 a1 a2 a3 a4) := by
  refine ct_of (own := RX11) (ls := [(0, .ref (xad X 362)), (1, .int a1), (2, .int a2), (3, .int a3), (4, .int a4)]) (by decide) rfl rfl (Nat.le_of_ble_eq_true rfl) (fun K => ?_)
  show gX11_laid K X 0 0 0 [(0, .ref (xad X 362)), (1, .int a1), (2, .int a2), (3, .int a3), (4, .int a4)] [] m0 (fX11_laid m0 a1 a2 a3 a4)
  delta fX11_laid
  refine ge_aload_n 0 DX11_laid_0 rfl ?_
  refine ge_iload_n 1 DX11_laid_1 rfl ?_
  refine ge_callVi0 (st := []) cm_X11_206 DX11_laid_2 is_362 rfl (okX11_isForm (kl K) X m0 a1) rfl rfl (Nat.le_of_ble_eq_true rfl) (by decide) ⟨rfl, rfl⟩ ⟨Nat.zero_le _, Nat.zero_le _⟩ (fun r2 m1 => ?_)
  refine ge_jn (P := fun k => ∀ (m3 : Mem) (v4 : Int32), gX11_laid K X 0 0 40 [(0, .ref (xad X 362)), (1, .int a1), (2, .int a2), (3, .int a3), (4, .int a4)] [.int v4] m3 (k m3 v4)) (fun m3 v4 => ?_) (fun j40 hj40 => ?_)
  · refine ge_istore (ls' := [(5, .int v4), (0, .ref (xad X 362)), (1, .int a1), (2, .int a2), (3, .int a3), (4, .int a4)]) DX11_laid_40 (by decide) rfl ?_
    refine ge_iload 0 DX11_laid_42 rfl ?_
    refine ge_if_eq (tgt := 59) DX11_laid_44 (by decide) ?_ ?_
    · refine ge_aload_n 1 DX11_laid_59 rfl ?_
      refine ge_sipush (v := (-1001 : Int32)) DX11_laid_60 rfl ?_
      refine ge_callVi0 (st := []) cm_X11_145 DX11_laid_63 is_362 rfl (okX11_refuse (kl K) X m3 (-1001 : Int32)) rfl rfl (Nat.le_of_ble_eq_true rfl) (by decide) ⟨rfl, rfl⟩ ⟨Nat.zero_le _, Nat.zero_le _⟩ (fun r6 m5 => ?_)
      exact ge_iret rfl DX11_laid_66
    · refine ge_aload_n 1 DX11_laid_47 rfl ?_
      refine ge_iload_n 2 DX11_laid_48 rfl ?_
      refine ge_iload_n 3 DX11_laid_49 rfl ?_
      refine ge_iload_n 4 DX11_laid_50 rfl ?_
      refine ge_iload 5 DX11_laid_51 rfl ?_
      refine ge_callVi0 (st := []) cm_X11_292 DX11_laid_53 is_362 rfl (okX11_laidIn (kl K) X m3 a1 a2 a3 a4) rfl rfl (Nat.le_of_ble_eq_true rfl) (by decide) ⟨rfl, rfl⟩ ⟨Nat.zero_le _, Nat.zero_le _⟩ (fun r8 m7 => ?_)
      refine ge_goto (tgt := 66) DX11_laid_56 (by decide) ?_
      exact ge_iret rfl DX11_laid_66
  refine ge_jn (P := fun k => ∀ (m9 : Mem), gX11_laid K X 0 0 39 [(0, .ref (xad X 362)), (1, .int a1), (2, .int a2), (3, .int a3), (4, .int a4)] [] m9 (k m9)) (fun m9 => ?_) (fun j39 hj39 => ?_)
  · refine ge_iconst (v := (0 : Int32)) DX11_laid_39 rfl ?_
    exact hj40 m9 (0 : Int32)
  refine ge_if_eq (tgt := 39) DX11_laid_5 (by decide) ?_ ?_
  · exact hj39 m1
  · refine ge_aload_n 0 DX11_laid_8 rfl ?_
    refine ge_iload_n 1 DX11_laid_9 rfl ?_
    refine ge_iload_n 2 DX11_laid_10 rfl ?_
    refine ge_callVi0 (st := []) cm_X11_286 DX11_laid_11 is_362 rfl (okX11_isField (kl K) X m1 a1 a2) rfl rfl (Nat.le_of_ble_eq_true rfl) (by decide) ⟨rfl, rfl⟩ ⟨Nat.zero_le _, Nat.zero_le _⟩ (fun r11 m10 => ?_)
    refine ge_if_eq (tgt := 39) DX11_laid_14 (by decide) ?_ ?_
    · exact hj39 m10
    · refine ge_iload_n 3 DX11_laid_17 rfl ?_
      refine ge_callSi0 (st := []) cm_X11_229 DX11_laid_18 (okX11_isWord (kl K) X m10 a3) rfl rfl (Nat.le_of_ble_eq_true rfl) (by decide) ⟨rfl, rfl⟩ ⟨Nat.zero_le _, Nat.zero_le _⟩ (fun r13 m12 => ?_)
      refine ge_if_eq (tgt := 39) DX11_laid_21 (by decide) ?_ ?_
      · exact hj39 m12
      · refine ge_aload_n 0 DX11_laid_24 rfl ?_
        refine ge_iload_n 1 DX11_laid_25 rfl ?_
        refine ge_iload_n 2 DX11_laid_26 rfl ?_
        refine ge_iload 4 DX11_laid_27 rfl ?_
        refine ge_callVi0 (st := []) cm_X11_289 DX11_laid_29 is_362 rfl (okX11_canStand (kl K) X m12 a1 a2 a4) rfl rfl (Nat.le_of_ble_eq_true rfl) (by decide) ⟨rfl, rfl⟩ ⟨Nat.zero_le _, Nat.zero_le _⟩ (fun r15 m14 => ?_)
        refine ge_if_eq (tgt := 39) DX11_laid_32 (by decide) ?_ ?_
        · exact hj39 m14
        · refine ge_iconst (v := (1 : Int32)) DX11_laid_35 rfl ?_
          refine ge_goto (tgt := 40) DX11_laid_36 (by decide) ?_
          exact hj40 m14 (1 : Int32)
abbrev gX11_notes (K : Kt) (X : Xt) := GE (R := Unit) K rmX11_notes X cX11_notes 2 RX11 none (finM K X ιV 0 0)
set_option maxHeartbeats 4000000 in
set_option maxRecDepth 100000 in
theorem lX11_notes_L51 (K : Kt) (X : Xt) {k83 : Mem → Option (Unit × Mem)}   (hk83 : ∀ (m4 : Mem), gX11_notes K X 0 0 83 [(0, .ref (xad X 362))] [] m4 (k83 m4)) :
    ∀ (n : Nat) (m2 : Mem) (x3 : Int32), gX11_notes K X 0 0 51 [(0, .ref (xad X 362)), (1, .int x3)] [] m2 (fX11_notes_L51 k83  n m2 x3) := by
  intro n
  induction n with
  | zero => intro m2 x3; exact ge_none
  | succ n ih =>
    intro m2 x3
    show gX11_notes K X 0 0 51 [(0, .ref (xad X 362)), (1, .int x3)] [] m2 (fX11_notes_L51_b k83  (fX11_notes_L51 k83  n) m2 x3)
    delta fX11_notes_L51_b
    refine ge_iload_n 1 DX11_notes_51 rfl ?_
    refine ge_bipush (v := (73 : Int32)) DX11_notes_52 rfl ?_
    refine ge_icmp_ge (tgt := 83) DX11_notes_54 (by decide) ?_ ?_
    · refine ge_aload_n 0 DX11_notes_57 rfl ?_
      refine ge_getR (i := 376) DX11_notes_58 fl_X11_49 is_362 (by decide) rfl ?_
      refine ge_bipush (v := (73 : Int32)) DX11_notes_61 rfl ?_
      refine ge_aload_n 0 DX11_notes_63 rfl ?_
      refine ge_getI DX11_notes_64 fl_X11_131 is_362 (by decide) rfl ?_
      refine ge_imul DX11_notes_67 ?_
      refine ge_iload_n 1 DX11_notes_68 rfl ?_
      refine ge_iadd DX11_notes_69 ?_
      refine ge_aload_n 0 DX11_notes_70 rfl ?_
      refine ge_getR (i := 375) DX11_notes_71 fl_X11_46 is_362 (by decide) rfl ?_
      refine ge_iload_n 1 DX11_notes_74 rfl ?_
      refine ge_iald DX11_notes_75 is_375 al_375 ?_
      refine ge_iast DX11_notes_76 is_376 al_376 (fun m7 => ?_)
      refine ge_iinc 1 (v := (x3 + (1 : Int32))) (ls' := [(1, .int (x3 + (1 : Int32))), (0, .ref (xad X 362))]) DX11_notes_77 rfl rfl (by decide) rfl ?_
      refine ge_goto (tgt := 51) DX11_notes_80 (by decide) ?_
      refine ge_sub [1, 0] rfl ?_
      exact ih m7 (x3 + (1 : Int32))
    · refine ge_sub [0] rfl ?_
      exact hk83 m2
set_option maxHeartbeats 4000000 in
set_option maxRecDepth 100000 in
theorem lX11_notes_L11 (K : Kt) (X : Xt) {k39 : Mem → Option (Unit × Mem)}   (hk39 : ∀ (m10 : Mem), gX11_notes K X 0 0 39 [(0, .ref (xad X 362))] [] m10 (k39 m10)) :
    ∀ (n : Nat) (m8 : Mem) (x9 : Int32), gX11_notes K X 0 0 11 [(0, .ref (xad X 362)), (1, .int x9)] [] m8 (fX11_notes_L11 k39  n m8 x9) := by
  intro n
  induction n with
  | zero => intro m8 x9; exact ge_none
  | succ n ih =>
    intro m8 x9
    show gX11_notes K X 0 0 11 [(0, .ref (xad X 362)), (1, .int x9)] [] m8 (fX11_notes_L11_b k39  (fX11_notes_L11 k39  n) m8 x9)
    delta fX11_notes_L11_b
    refine ge_iload_n 1 DX11_notes_11 rfl ?_
    refine ge_sipush (v := (1095 : Int32)) DX11_notes_12 rfl ?_
    refine ge_icmp_ge (tgt := 39) DX11_notes_15 (by decide) ?_ ?_
    · refine ge_aload_n 0 DX11_notes_18 rfl ?_
      refine ge_getR (i := 376) DX11_notes_19 fl_X11_49 is_362 (by decide) rfl ?_
      refine ge_iload_n 1 DX11_notes_22 rfl ?_
      refine ge_aload_n 0 DX11_notes_23 rfl ?_
      refine ge_getR (i := 376) DX11_notes_24 fl_X11_49 is_362 (by decide) rfl ?_
      refine ge_iload_n 1 DX11_notes_27 rfl ?_
      refine ge_bipush (v := (73 : Int32)) DX11_notes_28 rfl ?_
      refine ge_iadd DX11_notes_30 ?_
      refine ge_iald DX11_notes_31 is_376 al_376 ?_
      refine ge_iast DX11_notes_32 is_376 al_376 (fun m13 => ?_)
      refine ge_iinc 1 (v := (x9 + (1 : Int32))) (ls' := [(1, .int (x9 + (1 : Int32))), (0, .ref (xad X 362))]) DX11_notes_33 rfl rfl (by decide) rfl ?_
      refine ge_goto (tgt := 11) DX11_notes_36 (by decide) ?_
      refine ge_sub [1, 0] rfl ?_
      exact ih m13 (x9 + (1 : Int32))
    · refine ge_sub [0] rfl ?_
      exact hk39 m8
set_option maxHeartbeats 4000000 in
set_option maxRecDepth 100000 in
theorem okX11_notes (l : Launch) (X : Xt) (m0 : Mem) : Ct l yX11_notes cX11_notes 2 none rmX11_notes ιV X [.ref (xad X 362)] m0 (fX11_notes m0) := by
  refine ct_of (own := RX11) (ls := [(0, .ref (xad X 362))]) (by decide) rfl rfl (Nat.le_of_ble_eq_true rfl) (fun K => ?_)
  show gX11_notes K X 0 0 0 [(0, .ref (xad X 362))] [] m0 (fX11_notes m0)
  delta fX11_notes
  refine ge_aload_n 0 DX11_notes_0 rfl ?_
  refine ge_getI DX11_notes_1 fl_X11_131 is_362 (by decide) rfl ?_
  refine ge_bipush (v := (16 : Int32)) DX11_notes_4 rfl ?_
  refine ge_jn (P := fun k => ∀ (m1 : Mem), gX11_notes K X 0 0 49 [(0, .ref (xad X 362))] [] m1 (k m1)) (fun m1 => ?_) (fun j49 hj49 => ?_)
  · refine ge_iconst (v := (0 : Int32)) DX11_notes_49 rfl ?_
    refine ge_istore_n (ls' := [(1, .int (0 : Int32)), (0, .ref (xad X 362))]) DX11_notes_50 (by decide) rfl ?_
    refine ge_sub [1, 0] rfl ?_
    refine lX11_notes_L51 K X  (fun m5 => ?_) 5000 m1 (0 : Int32)
    · refine ge_aload_n 0 DX11_notes_83 rfl ?_
      refine ge_dup DX11_notes_84 rfl ?_
      refine ge_getI DX11_notes_85 fl_X11_131 is_362 (by decide) rfl ?_
      refine ge_iconst (v := (1 : Int32)) DX11_notes_88 rfl ?_
      refine ge_iadd DX11_notes_89 ?_
      refine ge_put DX11_notes_90 fp_X11_131 is_362 (by decide) rfl (fun m6 => ?_)
      exact ge_vret rfl DX11_notes_93
  refine ge_icmp_ne (tgt := 49) DX11_notes_6 (by decide) ?_ ?_
  · refine ge_iconst (v := (0 : Int32)) DX11_notes_9 rfl ?_
    refine ge_istore_n (ls' := [(1, .int (0 : Int32)), (0, .ref (xad X 362))]) DX11_notes_10 (by decide) rfl ?_
    refine ge_sub [1, 0] rfl ?_
    refine lX11_notes_L11 K X  (fun m11 => ?_) 5000 m0 (0 : Int32)
    · refine ge_aload_n 0 DX11_notes_39 rfl ?_
      refine ge_dup DX11_notes_40 rfl ?_
      refine ge_getI DX11_notes_41 fl_X11_131 is_362 (by decide) rfl ?_
      refine ge_iconst (v := (1 : Int32)) DX11_notes_44 rfl ?_
      refine ge_isub DX11_notes_45 ?_
      refine ge_put DX11_notes_46 fp_X11_131 is_362 (by decide) rfl (fun m12 => ?_)
      exact hj49 m12
  · exact hj49 m0
abbrev gX11_undo (K : Kt) (X : Xt) := GE (R := Int32) K rmX11_undo X cX11_undo 2 RX11 (some .int) (finM K X ιI 0 0)
set_option maxHeartbeats 4000000 in
set_option maxRecDepth 100000 in
theorem lX11_undo_L27 (K : Kt) (X : Xt) {k59 : Mem → Option (Int32 × Mem)}   (hk59 : ∀ (m6 : Mem), gX11_undo K X 0 0 59 [(0, .ref (xad X 362))] [] m6 (k59 m6)) :
    ∀ (n : Nat) (m4 : Mem) (x5 : Int32), gX11_undo K X 0 0 27 [(0, .ref (xad X 362)), (1, .int x5)] [] m4 (fX11_undo_L27 k59  n m4 x5) := by
  intro n
  induction n with
  | zero => intro m4 x5; exact ge_none
  | succ n ih =>
    intro m4 x5
    show gX11_undo K X 0 0 27 [(0, .ref (xad X 362)), (1, .int x5)] [] m4 (fX11_undo_L27_b k59  (fX11_undo_L27 k59  n) m4 x5)
    delta fX11_undo_L27_b
    refine ge_iload_n 1 DX11_undo_27 rfl ?_
    refine ge_bipush (v := (73 : Int32)) DX11_undo_28 rfl ?_
    refine ge_icmp_ge (tgt := 59) DX11_undo_30 (by decide) ?_ ?_
    · refine ge_aload_n 0 DX11_undo_33 rfl ?_
      refine ge_getR (i := 375) DX11_undo_34 fl_X11_46 is_362 (by decide) rfl ?_
      refine ge_iload_n 1 DX11_undo_37 rfl ?_
      refine ge_aload_n 0 DX11_undo_38 rfl ?_
      refine ge_getR (i := 376) DX11_undo_39 fl_X11_49 is_362 (by decide) rfl ?_
      refine ge_bipush (v := (73 : Int32)) DX11_undo_42 rfl ?_
      refine ge_aload_n 0 DX11_undo_44 rfl ?_
      refine ge_getI DX11_undo_45 fl_X11_131 is_362 (by decide) rfl ?_
      refine ge_imul DX11_undo_48 ?_
      refine ge_iload_n 1 DX11_undo_49 rfl ?_
      refine ge_iadd DX11_undo_50 ?_
      refine ge_iald DX11_undo_51 is_376 al_376 ?_
      refine ge_iast DX11_undo_52 is_375 al_375 (fun m8 => ?_)
      refine ge_iinc 1 (v := (x5 + (1 : Int32))) (ls' := [(1, .int (x5 + (1 : Int32))), (0, .ref (xad X 362))]) DX11_undo_53 rfl rfl (by decide) rfl ?_
      refine ge_goto (tgt := 27) DX11_undo_56 (by decide) ?_
      refine ge_sub [1, 0] rfl ?_
      exact ih m8 (x5 + (1 : Int32))
    · refine ge_sub [0] rfl ?_
      exact hk59 m4
set_option maxHeartbeats 4000000 in
set_option maxRecDepth 100000 in
theorem okX11_undo (l : Launch) (X : Xt) (m0 : Mem) : Ct l yX11_undo cX11_undo 2 (some .int) rmX11_undo ιI X [.ref (xad X 362)] m0 (fX11_undo m0) := by
  refine ct_of (own := RX11) (ls := [(0, .ref (xad X 362))]) (by decide) rfl rfl (Nat.le_of_ble_eq_true rfl) (fun K => ?_)
  show gX11_undo K X 0 0 0 [(0, .ref (xad X 362))] [] m0 (fX11_undo m0)
  delta fX11_undo
  refine ge_aload_n 0 DX11_undo_0 rfl ?_
  refine ge_getI DX11_undo_1 fl_X11_131 is_362 (by decide) rfl ?_
  refine ge_if_ne (tgt := 15) DX11_undo_4 (by decide) ?_ ?_
  · refine ge_aload_n 0 DX11_undo_7 rfl ?_
    refine ge_sipush (v := (-1003 : Int32)) DX11_undo_8 rfl ?_
    refine ge_callVi0 (st := []) cm_X11_145 DX11_undo_11 is_362 rfl (okX11_refuse (kl K) X m0 (-1003 : Int32)) rfl rfl (Nat.le_of_ble_eq_true rfl) (by decide) ⟨rfl, rfl⟩ ⟨Nat.zero_le _, Nat.zero_le _⟩ (fun r2 m1 => ?_)
    exact ge_iret rfl DX11_undo_14
  · refine ge_aload_n 0 DX11_undo_15 rfl ?_
    refine ge_dup DX11_undo_16 rfl ?_
    refine ge_getI DX11_undo_17 fl_X11_131 is_362 (by decide) rfl ?_
    refine ge_iconst (v := (1 : Int32)) DX11_undo_20 rfl ?_
    refine ge_isub DX11_undo_21 ?_
    refine ge_put DX11_undo_22 fp_X11_131 is_362 (by decide) rfl (fun m3 => ?_)
    refine ge_iconst (v := (0 : Int32)) DX11_undo_25 rfl ?_
    refine ge_istore_n (ls' := [(1, .int (0 : Int32)), (0, .ref (xad X 362))]) DX11_undo_26 (by decide) rfl ?_
    refine ge_sub [1, 0] rfl ?_
    refine lX11_undo_L27 K X  (fun m7 => ?_) 5000 m3 (0 : Int32)
    · refine ge_aload_n 0 DX11_undo_59 rfl ?_
      refine ge_getI DX11_undo_60 fl_X11_131 is_362 (by decide) rfl ?_
      exact ge_iret rfl DX11_undo_63
abbrev gX11_hold (K : Kt) (X : Xt) := GE (R := Int32) K rmX11_hold X cX11_hold 4 RX11 (some .int) (finM K X ιI 0 0)
set_option maxHeartbeats 4000000 in
set_option maxRecDepth 100000 in
theorem okX11_hold (l : Launch) (X : Xt) (m0 : Mem) (a1 : Int32) (a2 : Int32) : Ct l yX11_hold cX11_hold 4 (some .int) rmX11_hold ιI X [.ref (xad X 362), .int a1, .int a2] m0 (fX11_hold m0 a1 a2) := by
  refine ct_of (own := RX11) (ls := [(0, .ref (xad X 362)), (1, .int a1), (2, .int a2)]) (by decide) rfl rfl (Nat.le_of_ble_eq_true rfl) (fun K => ?_)
  show gX11_hold K X 0 0 0 [(0, .ref (xad X 362)), (1, .int a1), (2, .int a2)] [] m0 (fX11_hold m0 a1 a2)
  delta fX11_hold
  refine ge_iload_n 1 DX11_hold_0 rfl ?_
  refine ge_i2l DX11_hold_1 ?_
  refine ge_lconst (v := (0 : Int64)) DX11_hold_2 rfl ?_
  refine ge_ldc2 (v := (7 : Int64)) kw_X11_87 DX11_hold_3 ?_
  refine ge_callSi0 (st := []) cm_X11_89 DX11_hold_6 (okX11_isIn (kl K) X m0 ((a1).toInt64) (0 : Int64) (7 : Int64)) rfl rfl (Nat.le_of_ble_eq_true rfl) (by decide) ⟨rfl, rfl⟩ ⟨Nat.zero_le _, Nat.zero_le _⟩ (fun r2 m1 => ?_)
  refine ge_jn (P := fun k => ∀ (m3 : Mem), gX11_hold K X 0 0 26 [(0, .ref (xad X 362))] [] m3 (k m3)) (fun m3 => ?_) (fun j26 hj26 => ?_)
  · refine ge_aload_n 0 DX11_hold_26 rfl ?_
    refine ge_sipush (v := (-1001 : Int32)) DX11_hold_27 rfl ?_
    refine ge_callVi0 (st := []) cm_X11_145 DX11_hold_30 is_362 rfl (okX11_refuse (kl K) X m3 (-1001 : Int32)) rfl rfl (Nat.le_of_ble_eq_true rfl) (by decide) ⟨rfl, rfl⟩ ⟨Nat.zero_le _, Nat.zero_le _⟩ (fun r5 m4 => ?_)
    exact ge_iret rfl DX11_hold_33
  refine ge_if_eq (tgt := 26) DX11_hold_9 (by decide) ?_ ?_
  · refine ge_sub [0] rfl ?_
    exact hj26 m1
  · refine ge_iload_n 2 DX11_hold_12 rfl ?_
    refine ge_i2l DX11_hold_13 ?_
    refine ge_ldc2 (v := (-128 : Int64)) kw_X11_296 DX11_hold_14 ?_
    refine ge_ldc2 (v := (255 : Int64)) kw_X11_151 DX11_hold_17 ?_
    refine ge_callSi0 (st := []) cm_X11_89 DX11_hold_20 (okX11_isIn (kl K) X m1 ((a2).toInt64) (-128 : Int64) (255 : Int64)) rfl rfl (Nat.le_of_ble_eq_true rfl) (by decide) ⟨rfl, rfl⟩ ⟨Nat.zero_le _, Nat.zero_le _⟩ (fun r7 m6 => ?_)
    refine ge_if_ne (tgt := 34) DX11_hold_23 (by decide) ?_ ?_
    · refine ge_sub [0] rfl ?_
      exact hj26 m6
    · refine ge_aload_n 0 DX11_hold_34 rfl ?_
      refine ge_callVv0 (st := []) cm_X11_298 DX11_hold_35 is_362 rfl (okX11_notes (kl K) X m6) rfl rfl (Nat.le_of_ble_eq_true rfl) (by decide) ⟨rfl, rfl⟩ ⟨Nat.zero_le _, Nat.zero_le _⟩ (fun m8 => ?_)
      refine ge_aload_n 0 DX11_hold_38 rfl ?_
      refine ge_getR (i := 375) DX11_hold_39 fl_X11_46 is_362 (by decide) rfl ?_
      refine ge_iconst (v := (0 : Int32)) DX11_hold_42 rfl ?_
      refine ge_iload_n 1 DX11_hold_43 rfl ?_
      refine ge_iadd DX11_hold_44 ?_
      refine ge_iald DX11_hold_45 is_375 al_375 ?_
      refine ge_topi (fun x9 => ?_)
      refine ge_istore_n (ls' := [(3, .int x9), (0, .ref (xad X 362)), (1, .int a1), (2, .int a2)]) DX11_hold_46 (by decide) rfl ?_
      refine ge_aload_n 1 DX11_hold_47 rfl ?_
      refine ge_getR (i := 375) DX11_hold_48 fl_X11_46 is_362 (by decide) rfl ?_
      refine ge_iconst (v := (0 : Int32)) DX11_hold_51 rfl ?_
      refine ge_iload_n 2 DX11_hold_52 rfl ?_
      refine ge_iadd DX11_hold_53 ?_
      refine ge_iload_n 3 DX11_hold_54 rfl ?_
      refine ge_iast DX11_hold_55 is_375 al_375 (fun m10 => ?_)
      refine ge_iload_n 0 DX11_hold_56 rfl ?_
      exact ge_iret rfl DX11_hold_57
abbrev gX11_make (K : Kt) (X : Xt) := GE (R := Int32) K rmX11_make X cX11_make 4 RX11 (some .int) (finM K X ιI 1 12)
set_option maxHeartbeats 4000000 in
set_option maxRecDepth 100000 in
theorem lX11_make_L24 (K : Kt) (X : Xt) (hX : xn X = 385) (cE sE : Nat) {k59 : Mem → Option (Int32 × Mem)} {k89 : Mem → Int32 → Option (Int32 × Mem)} (y8 : Int32)  (hk59 : ∀ (m11 : Mem), gX11_make K X cE sE 59 [(0, .ref (xad X 362))] [] m11 (k59 m11)) (hk89 : ∀ (m15 : Mem) (x16 : Int32), gX11_make K X cE sE 89 [(0, .ref (xad X 362)), (1, .int y8), (2, .int x16)] [] m15 (k89 m15 x16)) (hcE : cE ≤ 1) (hsE : sE ≤ 12) :
    ∀ (n c0 s0 : Nat), c0 + n * 0 ≤ cE → s0 + n * 0 ≤ sE → ∀ (m7 : Mem) (x9 : Int32) (x10 : Int32), gX11_make K X c0 s0 24 [(0, .ref (xad X 362)), (1, .int y8), (2, .int x9), (3, .int x10)] [] m7 (fX11_make_L24 k59 k89 y8 n m7 x9 x10) := by
  intro n
  induction n with
  | zero => intro c0 s0 h1 h2 m7 x9 x10; exact ge_none
  | succ n ih =>
    intro c0 s0 h1 h2 m7 x9 x10
    show gX11_make K X c0 s0 24 [(0, .ref (xad X 362)), (1, .int y8), (2, .int x9), (3, .int x10)] [] m7 (fX11_make_L24_b k59 k89 y8 (fX11_make_L24 k59 k89 y8 n) m7 x9 x10)
    delta fX11_make_L24_b
    refine ge_iload_n 3 DX11_make_24 rfl ?_
    refine ge_bipush (v := (8 : Int32)) DX11_make_25 rfl ?_
    refine ge_icmp_ge (tgt := 89) DX11_make_27 (by decide) ?_ ?_
    · refine ge_aload_n 0 DX11_make_30 rfl ?_
      refine ge_iload_n 1 DX11_make_31 rfl ?_
      refine ge_iload_n 3 DX11_make_32 rfl ?_
      refine ge_callVi0 (st := []) cm_X11_93 DX11_make_33 is_362 rfl (okX11_bitsOf (kl K) X m7 y8 x10) rfl rfl (Nat.le_of_ble_eq_true rfl) (by decide) ⟨rfl, rfl⟩ ⟨by show _ ≤ (1 : Nat); omega, by show _ ≤ (12 : Nat); omega⟩ (fun r24 m23 => ?_)
      refine ge_jn (P := fun k => ∀ (m25 : Mem) (x26 : Int32), gX11_make K X c0 s0 83 [(0, .ref (xad X 362)), (1, .int y8), (2, .int x26), (3, .int x10)] [] m25 (k m25 x26)) (fun m25 x26 => ?_) (fun j83 hj83 => ?_)
      · refine ge_iinc 3 (v := (x10 + (1 : Int32))) (ls' := [(3, .int (x10 + (1 : Int32))), (0, .ref (xad X 362)), (1, .int y8), (2, .int x26)]) DX11_make_83 rfl rfl (by decide) rfl ?_
        refine ge_goto (tgt := 24) DX11_make_86 (by decide) ?_
        refine ge_sub [1, 2, 3, 0] rfl ?_
        exact ih _ _ (by omega) (by omega) m25 x26 (x10 + (1 : Int32))
      refine ge_if_ne (tgt := 42) DX11_make_36 (by decide) ?_ ?_
      · refine ge_goto (tgt := 83) DX11_make_39 (by decide) ?_
        refine ge_widen (cells' := c0) (slots' := s0) (by omega) (by omega) ?_
        exact hj83 m23 x9
      · refine ge_aload_n 0 DX11_make_42 rfl ?_
        refine ge_iload_n 1 DX11_make_43 rfl ?_
        refine ge_iload_n 3 DX11_make_44 rfl ?_
        refine ge_aload_n 0 DX11_make_45 rfl ?_
        refine ge_getR (i := 375) DX11_make_46 fl_X11_46 is_362 (by decide) rfl ?_
        refine ge_iconst (v := (0 : Int32)) DX11_make_49 rfl ?_
        refine ge_iload_n 3 DX11_make_50 rfl ?_
        refine ge_iadd DX11_make_51 ?_
        refine ge_iald DX11_make_52 is_375 al_375 ?_
        refine ge_callVi0 (st := []) cm_X11_289 DX11_make_53 is_362 rfl (okX11_canStand (kl K) X m23 y8 x10 (m23 375 (ix ((0 : Int32) + x10)))) rfl rfl (Nat.le_of_ble_eq_true rfl) (by decide) ⟨rfl, rfl⟩ ⟨by show _ ≤ (1 : Nat); omega, by show _ ≤ (12 : Nat); omega⟩ (fun r28 m27 => ?_)
        refine ge_if_ne (tgt := 67) DX11_make_56 (by decide) ?_ ?_
        · refine ge_widen (cells' := cE) (slots' := sE) (by omega) (by omega) ?_
          refine ge_sub [0] rfl ?_
          exact hk59 m27
        · refine ge_aload_n 0 DX11_make_67 rfl ?_
          refine ge_iload_n 1 DX11_make_68 rfl ?_
          refine ge_iload_n 3 DX11_make_69 rfl ?_
          refine ge_iload_n 2 DX11_make_70 rfl ?_
          refine ge_aload_n 0 DX11_make_71 rfl ?_
          refine ge_getR (i := 375) DX11_make_72 fl_X11_46 is_362 (by decide) rfl ?_
          refine ge_iconst (v := (0 : Int32)) DX11_make_75 rfl ?_
          refine ge_iload_n 3 DX11_make_76 rfl ?_
          refine ge_iadd DX11_make_77 ?_
          refine ge_iald DX11_make_78 is_375 al_375 ?_
          refine ge_callVi0 (st := []) cm_X11_292 DX11_make_79 is_362 rfl (okX11_laidIn (kl K) X m27 y8 x10 x9 (m27 375 (ix ((0 : Int32) + x10)))) rfl rfl (Nat.le_of_ble_eq_true rfl) (by decide) ⟨rfl, rfl⟩ ⟨by show _ ≤ (1 : Nat); omega, by show _ ≤ (12 : Nat); omega⟩ (fun r30 m29 => ?_)
          refine ge_istore_n (ls' := [(2, .int r30), (0, .ref (xad X 362)), (1, .int y8), (3, .int x10)]) DX11_make_82 (by decide) rfl ?_
          refine ge_widen (cells' := c0) (slots' := s0) (by omega) (by omega) ?_
          refine ge_sub [1, 2, 0, 3] rfl ?_
          exact hj83 m29 r30
    · refine ge_widen (cells' := cE) (slots' := sE) (by omega) (by omega) ?_
      refine ge_sub [0, 1, 2] rfl ?_
      exact hk89 m7 x9
set_option maxHeartbeats 4000000 in
set_option maxRecDepth 100000 in
theorem okX11_make (l : Launch) (X : Xt) (hX : xn X = 385) (m0 : Mem) (a1 : Int32) : Ct l yX11_make cX11_make 4 (some .int) rmX11_make ιI X [.ref (xad X 362), .int a1] m0 (fX11_make m0 a1) := by
  refine ct_of (own := RX11) (ls := [(0, .ref (xad X 362)), (1, .int a1)]) (by decide) rfl rfl (Nat.le_of_ble_eq_true rfl) (fun K => ?_)
  show gX11_make K X 0 0 0 [(0, .ref (xad X 362)), (1, .int a1)] [] m0 (fX11_make m0 a1)
  delta fX11_make
  refine ge_aload_n 0 DX11_make_0 rfl ?_
  refine ge_iload_n 1 DX11_make_1 rfl ?_
  refine ge_callVi0 (st := []) cm_X11_206 DX11_make_2 is_362 rfl (okX11_isForm (kl K) X m0 a1) rfl rfl (Nat.le_of_ble_eq_true rfl) (by decide) ⟨rfl, rfl⟩ ⟨by show _ ≤ (1 : Nat); omega, by show _ ≤ (12 : Nat); omega⟩ (fun r2 m1 => ?_)
  refine ge_if_ne (tgt := 16) DX11_make_5 (by decide) ?_ ?_
  · refine ge_aload_n 0 DX11_make_8 rfl ?_
    refine ge_sipush (v := (-1001 : Int32)) DX11_make_9 rfl ?_
    refine ge_callVi0 (st := []) cm_X11_145 DX11_make_12 is_362 rfl (okX11_refuse (kl K) X m1 (-1001 : Int32)) rfl rfl (Nat.le_of_ble_eq_true rfl) (by decide) ⟨rfl, rfl⟩ ⟨by show _ ≤ (1 : Nat); omega, by show _ ≤ (12 : Nat); omega⟩ (fun r4 m3 => ?_)
    refine ge_widen (cells' := 1) (slots' := 12) (by omega) (by omega) ?_
    exact ge_iret rfl DX11_make_15
  · refine ge_aload_n 0 DX11_make_16 rfl ?_
    refine ge_iload_n 1 DX11_make_17 rfl ?_
    refine ge_callVi0 (st := []) cm_X11_114 DX11_make_18 is_362 rfl (okX11_valueOf (kl K) X m1 a1) rfl rfl (Nat.le_of_ble_eq_true rfl) (by decide) ⟨rfl, rfl⟩ ⟨by show _ ≤ (1 : Nat); omega, by show _ ≤ (12 : Nat); omega⟩ (fun r6 m5 => ?_)
    refine ge_istore_n (ls' := [(2, .int r6), (0, .ref (xad X 362)), (1, .int a1)]) DX11_make_21 (by decide) rfl ?_
    refine ge_iconst (v := (0 : Int32)) DX11_make_22 rfl ?_
    refine ge_istore_n (ls' := [(3, .int (0 : Int32)), (2, .int r6), (0, .ref (xad X 362)), (1, .int a1)]) DX11_make_23 (by decide) rfl ?_
    refine ge_sub [2, 3, 1, 0] rfl ?_
    refine lX11_make_L24 K X hX ((0 + 5000 * 0)) ((0 + 5000 * 0)) a1 (fun m12 => ?_) (fun m17 x18 => ?_) (by omega) (by omega) 5000 _ _ (by omega) (by omega) m5 r6 (0 : Int32)
    · refine ge_aload_n 0 DX11_make_59 rfl ?_
      refine ge_sipush (v := (-1001 : Int32)) DX11_make_60 rfl ?_
      refine ge_callVi0 (st := []) cm_X11_145 DX11_make_63 is_362 rfl (okX11_refuse (kl K) X m12 (-1001 : Int32)) rfl rfl (Nat.le_of_ble_eq_true rfl) (by decide) ⟨rfl, rfl⟩ ⟨by show _ ≤ (1 : Nat); omega, by show _ ≤ (12 : Nat); omega⟩ (fun r14 m13 => ?_)
      refine ge_widen (cells' := 1) (slots' := 12) (by omega) (by omega) ?_
      exact ge_iret rfl DX11_make_66
    · refine ge_aload_n 0 DX11_make_89 rfl ?_
      refine ge_iload_n 2 DX11_make_90 rfl ?_
      refine ge_callViA (st := []) cm_X11_232 DX11_make_91 is_362 rfl (okX11_meant (kl K) X hX m17 x18) rfl rfl (Nat.le_of_ble_eq_true rfl) (by decide) (dc := 1) (ds := 12) ⟨rfl, rfl⟩ ⟨by show _ + 1 ≤ (1 : Nat); omega, by show _ + 12 ≤ (12 : Nat); omega⟩ (fun r20 m19 => ?_)
      refine ge_iload_n 1 DX11_make_94 rfl ?_
      refine ge_icmp_ne (tgt := 102) DX11_make_95 (by decide) ?_ ?_
      · refine ge_iload_n 2 DX11_make_98 rfl ?_
        refine ge_goto (tgt := 109) DX11_make_99 (by decide) ?_
        refine ge_widen (cells' := 1) (slots' := 12) (by omega) (by omega) ?_
        exact ge_iret rfl DX11_make_109
      · refine ge_aload_n 0 DX11_make_102 rfl ?_
        refine ge_sipush (v := (-1003 : Int32)) DX11_make_103 rfl ?_
        refine ge_callVi0 (st := []) cm_X11_145 DX11_make_106 is_362 rfl (okX11_refuse (kl K) X m19 (-1003 : Int32)) rfl rfl (Nat.le_of_ble_eq_true rfl) (by decide) ⟨rfl, rfl⟩ ⟨by show _ ≤ (1 : Nat); omega, by show _ ≤ (12 : Nat); omega⟩ (fun r22 m21 => ?_)
        refine ge_widen (cells' := 1) (slots' := 12) (by omega) (by omega) ?_
        exact ge_iret rfl DX11_make_109
abbrev gX11_says (K : Kt) (X : Xt) := GE (R := Unit) K rmX11_says X cX11_says 2 RX11 none (finM K X ιV 0 0)
set_option maxHeartbeats 4000000 in
set_option maxRecDepth 100000 in
theorem okX11_says (l : Launch) (X : Xt) (m0 : Mem) (a1 : Int32) : Ct l yX11_says cX11_says 2 none rmX11_says ιV X [.ref (xad X 362), .int a1] m0 (fX11_says m0 a1) := by
  refine ct_of (own := RX11) (ls := [(0, .ref (xad X 362)), (1, .int a1)]) (by decide) rfl rfl (Nat.le_of_ble_eq_true rfl) (fun K => ?_)
  show gX11_says K X 0 0 0 [(0, .ref (xad X 362)), (1, .int a1)] [] m0 (fX11_says m0 a1)
  delta fX11_says
  refine ge_aload_n 0 DX11_says_0 rfl ?_
  refine ge_getR (i := 374) DX11_says_1 fl_X11_43 is_362 (by decide) rfl ?_
  refine ge_aload_n 0 DX11_says_4 rfl ?_
  refine ge_getI DX11_says_5 fl_X11_301 is_362 (by decide) rfl ?_
  refine ge_iload_n 1 DX11_says_8 rfl ?_
  refine ge_iast DX11_says_9 is_374 al_374 (fun m1 => ?_)
  refine ge_aload_n 0 DX11_says_10 rfl ?_
  refine ge_dup DX11_says_11 rfl ?_
  refine ge_getI DX11_says_12 fl_X11_301 is_362 (by decide) rfl ?_
  refine ge_iconst (v := (1 : Int32)) DX11_says_15 rfl ?_
  refine ge_iadd DX11_says_16 ?_
  refine ge_put DX11_says_17 fp_X11_301 is_362 (by decide) rfl (fun m2 => ?_)
  exact ge_vret rfl DX11_says_20
abbrev gX11_saysNumber (K : Kt) (X : Xt) := GE (R := Unit) K rmX11_saysNumber X cX11_saysNumber 4 RX11 none (finM K X ιV 0 0)
set_option maxHeartbeats 4000000 in
set_option maxRecDepth 100000 in
theorem lX11_saysNumber_L39 (K : Kt) (X : Xt) {k64 : Mem → Option (Unit × Mem)} (y9 : Int32)  (hk64 : ∀ (m11 : Mem), gX11_saysNumber K X 0 0 64 [] [] m11 (k64 m11)) :
    ∀ (n : Nat) (m8 : Mem) (x10 : Int32), gX11_saysNumber K X 0 0 39 [(0, .ref (xad X 362)), (2, .int y9), (3, .int x10)] [] m8 (fX11_saysNumber_L39 k64 y9 n m8 x10) := by
  intro n
  induction n with
  | zero => intro m8 x10; exact ge_none
  | succ n ih =>
    intro m8 x10
    show gX11_saysNumber K X 0 0 39 [(0, .ref (xad X 362)), (2, .int y9), (3, .int x10)] [] m8 (fX11_saysNumber_L39_b k64 y9 (fX11_saysNumber_L39 k64 y9 n) m8 x10)
    delta fX11_saysNumber_L39_b
    refine ge_iload_n 2 DX11_saysNumber_39 rfl ?_
    refine ge_if_le (tgt := 64) DX11_saysNumber_40 (by decide) ?_ ?_
    · refine ge_aload_n 0 DX11_saysNumber_43 rfl ?_
      refine ge_bipush (v := (48 : Int32)) DX11_saysNumber_44 rfl ?_
      refine ge_iload_n 1 DX11_saysNumber_46 rfl ?_
      refine ge_iload_n 2 DX11_saysNumber_47 rfl ?_
      refine ge_idiv DX11_saysNumber_48 ?_
      refine ge_bipush (v := (10 : Int32)) DX11_saysNumber_49 rfl ?_
      refine ge_iremc DX11_saysNumber_51 rfl ?_
      refine ge_iadd DX11_saysNumber_52 ?_
      refine ge_callVv0 (st := []) cm_X11_304 DX11_saysNumber_53 is_362 rfl (okX11_says (kl K) X m8 ((48 : Int32) + ((y9 / x10) % (10 : Int32)))) rfl rfl (Nat.le_of_ble_eq_true rfl) (by decide) ⟨rfl, rfl⟩ ⟨Nat.zero_le _, Nat.zero_le _⟩ (fun m13 => ?_)
      refine ge_iload_n 2 DX11_saysNumber_56 rfl ?_
      refine ge_bipush (v := (10 : Int32)) DX11_saysNumber_57 rfl ?_
      refine ge_idivc DX11_saysNumber_59 rfl ?_
      refine ge_topi (fun x14 => ?_)
      refine ge_istore_n (ls' := [(3, .int x14), (0, .ref (xad X 362)), (2, .int y9)]) DX11_saysNumber_60 (by decide) rfl ?_
      refine ge_goto (tgt := 39) DX11_saysNumber_61 (by decide) ?_
      refine ge_sub [1, 2, 0] rfl ?_
      exact ih m13 x14
    · refine ge_sub [] rfl ?_
      exact hk64 m8
set_option maxHeartbeats 4000000 in
set_option maxRecDepth 100000 in
theorem lX11_saysNumber_L23 (K : Kt) (X : Xt) {k39 : Int32 → Option (Unit × Mem)} (m3 : Mem) (y4 : Int32)  (hk39 : ∀ (x6 : Int32), gX11_saysNumber K X 0 0 39 [(0, .ref (xad X 362)), (2, .int y4), (3, .int x6)] [] m3 (k39 x6)) :
    ∀ (n : Nat) (x5 : Int32), gX11_saysNumber K X 0 0 23 [(0, .ref (xad X 362)), (2, .int y4), (3, .int x5)] [] m3 (fX11_saysNumber_L23 k39 m3 y4 n x5) := by
  intro n
  induction n with
  | zero => intro x5; exact ge_none
  | succ n ih =>
    intro x5
    show gX11_saysNumber K X 0 0 23 [(0, .ref (xad X 362)), (2, .int y4), (3, .int x5)] [] m3 (fX11_saysNumber_L23_b k39 m3 y4 (fX11_saysNumber_L23 k39 m3 y4 n) x5)
    delta fX11_saysNumber_L23_b
    refine ge_iload_n 1 DX11_saysNumber_23 rfl ?_
    refine ge_iload_n 2 DX11_saysNumber_24 rfl ?_
    refine ge_idiv DX11_saysNumber_25 ?_
    refine ge_bipush (v := (9 : Int32)) DX11_saysNumber_26 rfl ?_
    refine ge_icmp_le (tgt := 39) DX11_saysNumber_28 (by decide) ?_ ?_
    · refine ge_iload_n 2 DX11_saysNumber_31 rfl ?_
      refine ge_bipush (v := (10 : Int32)) DX11_saysNumber_32 rfl ?_
      refine ge_imul DX11_saysNumber_34 ?_
      refine ge_topi (fun x15 => ?_)
      refine ge_istore_n (ls' := [(3, .int x15), (0, .ref (xad X 362)), (2, .int y4)]) DX11_saysNumber_35 (by decide) rfl ?_
      refine ge_goto (tgt := 23) DX11_saysNumber_36 (by decide) ?_
      refine ge_sub [1, 2, 0] rfl ?_
      exact ih x15
    · exact hk39 x5
set_option maxHeartbeats 4000000 in
set_option maxRecDepth 100000 in
theorem okX11_saysNumber (l : Launch) (X : Xt) (m0 : Mem) (a1 : Int32) : Ct l yX11_saysNumber cX11_saysNumber 4 none rmX11_saysNumber ιV X [.ref (xad X 362), .int a1] m0 (fX11_saysNumber m0 a1) := by
  refine ct_of (own := RX11) (ls := [(0, .ref (xad X 362)), (1, .int a1)]) (by decide) rfl rfl (Nat.le_of_ble_eq_true rfl) (fun K => ?_)
  show gX11_saysNumber K X 0 0 0 [(0, .ref (xad X 362)), (1, .int a1)] [] m0 (fX11_saysNumber m0 a1)
  delta fX11_saysNumber
  refine ge_iload_n 1 DX11_saysNumber_0 rfl ?_
  refine ge_jn (P := fun k => ∀ (m1 : Mem), gX11_saysNumber K X 0 0 10 [(0, .ref (xad X 362)), (1, .int a1)] [] m1 (k m1)) (fun m1 => ?_) (fun j10 hj10 => ?_)
  · refine ge_iload_n 1 DX11_saysNumber_10 rfl ?_
    refine ge_jn (P := fun k => ∀ (v2 : Int32), gX11_saysNumber K X 0 0 20 [(0, .ref (xad X 362))] [.int v2] m1 (k v2)) (fun v2 => ?_) (fun j20 hj20 => ?_)
    · refine ge_istore_n (ls' := [(2, .int v2), (0, .ref (xad X 362))]) DX11_saysNumber_20 (by decide) rfl ?_
      refine ge_iconst (v := (1 : Int32)) DX11_saysNumber_21 rfl ?_
      refine ge_istore_n (ls' := [(3, .int (1 : Int32)), (2, .int v2), (0, .ref (xad X 362))]) DX11_saysNumber_22 (by decide) rfl ?_
      refine ge_sub [2, 1, 0] rfl ?_
      refine lX11_saysNumber_L23 K X m1 v2 (fun x7 => ?_) 5000 (1 : Int32)
      · refine lX11_saysNumber_L39 K X v2 (fun m12 => ?_) 5000 m1 x7
        · exact ge_vret rfl DX11_saysNumber_64
    refine ge_if_ge (tgt := 19) DX11_saysNumber_11 (by decide) ?_ ?_
    · refine ge_iload_n 1 DX11_saysNumber_14 rfl ?_
      refine ge_ineg DX11_saysNumber_15 ?_
      refine ge_goto (tgt := 20) DX11_saysNumber_16 (by decide) ?_
      refine ge_sub [0] rfl ?_
      exact hj20 (-a1)
    · refine ge_iload_n 1 DX11_saysNumber_19 rfl ?_
      refine ge_sub [0] rfl ?_
      exact hj20 a1
  refine ge_if_ge (tgt := 10) DX11_saysNumber_1 (by decide) ?_ ?_
  · refine ge_aload_n 0 DX11_saysNumber_4 rfl ?_
    refine ge_bipush (v := (45 : Int32)) DX11_saysNumber_5 rfl ?_
    refine ge_callVv0 (st := []) cm_X11_304 DX11_saysNumber_7 is_362 rfl (okX11_says (kl K) X m0 (45 : Int32)) rfl rfl (Nat.le_of_ble_eq_true rfl) (by decide) ⟨rfl, rfl⟩ ⟨Nat.zero_le _, Nat.zero_le _⟩ (fun m16 => ?_)
    exact hj10 m16
  · exact hj10 m0
abbrev gX11_write (K : Kt) (X : Xt) := GE (R := Int32) K rmX11_write X cX11_write 4 RX11 (some .int) (finM K X ιI 1 12)
set_option maxHeartbeats 4000000 in
set_option maxRecDepth 100000 in
theorem lX11_write_L89 (K : Kt) (X : Xt) (hX : xn X = 385) (cE sE : Nat) {k126 : Mem → Option (Int32 × Mem)} (y18 : Int32) (y19 : Int32)  (hk126 : ∀ (m21 : Mem), gX11_write K X cE sE 126 [(0, .ref (xad X 362))] [] m21 (k126 m21)) (hcE : cE ≤ 1) (hsE : sE ≤ 12) :
    ∀ (n c0 s0 : Nat), c0 + n * 0 ≤ cE → s0 + n * 0 ≤ sE → ∀ (m17 : Mem) (x20 : Int32), gX11_write K X c0 s0 89 [(0, .ref (xad X 362)), (1, .int y18), (2, .int y19), (3, .int x20)] [] m17 (fX11_write_L89 k126 y18 y19 n m17 x20) := by
  intro n
  induction n with
  | zero => intro c0 s0 h1 h2 m17 x20; exact ge_none
  | succ n ih =>
    intro c0 s0 h1 h2 m17 x20
    show gX11_write K X c0 s0 89 [(0, .ref (xad X 362)), (1, .int y18), (2, .int y19), (3, .int x20)] [] m17 (fX11_write_L89_b k126 y18 y19 (fX11_write_L89 k126 y18 y19 n) m17 x20)
    delta fX11_write_L89_b
    refine ge_iload_n 3 DX11_write_89 rfl ?_
    refine ge_aload_n 0 DX11_write_90 rfl ?_
    refine ge_iload_n 2 DX11_write_91 rfl ?_
    refine ge_callVi0 (st := [.int x20]) cm_X11_211 DX11_write_92 is_362 rfl (okX11_fieldsOf (kl K) X m17 y19) rfl rfl (Nat.le_of_ble_eq_true rfl) (by decide) ⟨rfl, rfl⟩ ⟨by show _ ≤ (1 : Nat); omega, by show _ ≤ (12 : Nat); omega⟩ (fun r24 m23 => ?_)
    refine ge_icmp_ge (tgt := 126) DX11_write_95 (by decide) ?_ ?_
    · refine ge_aload_n 0 DX11_write_98 rfl ?_
      refine ge_bipush (v := (32 : Int32)) DX11_write_99 rfl ?_
      refine ge_callVv0 (st := []) cm_X11_304 DX11_write_101 is_362 rfl (okX11_says (kl K) X m23 (32 : Int32)) rfl rfl (Nat.le_of_ble_eq_true rfl) (by decide) ⟨rfl, rfl⟩ ⟨by show _ ≤ (1 : Nat); omega, by show _ ≤ (12 : Nat); omega⟩ (fun m25 => ?_)
      refine ge_aload_n 0 DX11_write_104 rfl ?_
      refine ge_aload_n 0 DX11_write_105 rfl ?_
      refine ge_iload_n 2 DX11_write_106 rfl ?_
      refine ge_aload_n 0 DX11_write_107 rfl ?_
      refine ge_iload_n 2 DX11_write_108 rfl ?_
      refine ge_iload_n 3 DX11_write_109 rfl ?_
      refine ge_callVi0 (st := [.int y19, .ref (xad X 362), .ref (xad X 362)]) cm_X11_283 DX11_write_110 is_362 rfl (okX11_fieldAt (kl K) X m25 y19 x20) rfl rfl (Nat.le_of_ble_eq_true rfl) (by decide) ⟨rfl, rfl⟩ ⟨by show _ ≤ (1 : Nat); omega, by show _ ≤ (12 : Nat); omega⟩ (fun r27 m26 => ?_)
      refine ge_iload_n 1 DX11_write_113 rfl ?_
      refine ge_callVi0 (st := [.ref (xad X 362)]) cm_X11_107 DX11_write_114 is_362 rfl (okX11_stands (kl K) X m26 y19 r27 y18) rfl rfl (Nat.le_of_ble_eq_true rfl) (by decide) ⟨rfl, rfl⟩ ⟨by show _ ≤ (1 : Nat); omega, by show _ ≤ (12 : Nat); omega⟩ (fun r29 m28 => ?_)
      refine ge_callVv0 (st := []) cm_X11_307 DX11_write_117 is_362 rfl (okX11_saysNumber (kl K) X m28 r29) rfl rfl (Nat.le_of_ble_eq_true rfl) (by decide) ⟨rfl, rfl⟩ ⟨by show _ ≤ (1 : Nat); omega, by show _ ≤ (12 : Nat); omega⟩ (fun m30 => ?_)
      refine ge_iinc 3 (v := (x20 + (1 : Int32))) (ls' := [(3, .int (x20 + (1 : Int32))), (0, .ref (xad X 362)), (1, .int y18), (2, .int y19)]) DX11_write_120 rfl rfl (by decide) rfl ?_
      refine ge_goto (tgt := 89) DX11_write_123 (by decide) ?_
      refine ge_sub [1, 2, 3, 0] rfl ?_
      exact ih _ _ (by omega) (by omega) m30 (x20 + (1 : Int32))
    · refine ge_widen (cells' := cE) (slots' := sE) (by omega) (by omega) ?_
      refine ge_sub [0] rfl ?_
      exact hk126 m23
set_option maxHeartbeats 4000000 in
set_option maxRecDepth 100000 in
theorem lX11_write_L58 (K : Kt) (X : Xt) (hX : xn X = 385) (cE sE : Nat) {k87 : Mem → Option (Int32 × Mem)} (y12 : Int32) (y13 : Int32)  (hk87 : ∀ (m15 : Mem), gX11_write K X cE sE 87 [(0, .ref (xad X 362)), (1, .int y12), (2, .int y13)] [] m15 (k87 m15)) (hcE : cE ≤ 1) (hsE : sE ≤ 12) :
    ∀ (n c0 s0 : Nat), c0 + n * 0 ≤ cE → s0 + n * 0 ≤ sE → ∀ (m11 : Mem) (x14 : Int32), gX11_write K X c0 s0 58 [(0, .ref (xad X 362)), (1, .int y12), (2, .int y13), (3, .int x14)] [] m11 (fX11_write_L58 k87 y12 y13 n m11 x14) := by
  intro n
  induction n with
  | zero => intro c0 s0 h1 h2 m11 x14; exact ge_none
  | succ n ih =>
    intro c0 s0 h1 h2 m11 x14
    show gX11_write K X c0 s0 58 [(0, .ref (xad X 362)), (1, .int y12), (2, .int y13), (3, .int x14)] [] m11 (fX11_write_L58_b k87 y12 y13 (fX11_write_L58 k87 y12 y13 n) m11 x14)
    delta fX11_write_L58_b
    refine ge_iload_n 3 DX11_write_58 rfl ?_
    refine ge_aload_n 0 DX11_write_59 rfl ?_
    refine ge_iload_n 2 DX11_write_60 rfl ?_
    refine ge_callVi0 (st := [.int x14]) cm_X11_214 DX11_write_61 is_362 rfl (okX11_nameMany (kl K) X m11 y13) rfl rfl (Nat.le_of_ble_eq_true rfl) (by decide) ⟨rfl, rfl⟩ ⟨by show _ ≤ (1 : Nat); omega, by show _ ≤ (12 : Nat); omega⟩ (fun r32 m31 => ?_)
    refine ge_icmp_ge (tgt := 87) DX11_write_64 (by decide) ?_ ?_
    · refine ge_aload_n 0 DX11_write_67 rfl ?_
      refine ge_aload_n 0 DX11_write_68 rfl ?_
      refine ge_getR (i := 365) DX11_write_69 fl_X11_16 is_362 (by decide) rfl ?_
      refine ge_iconst (v := (3 : Int32)) DX11_write_72 rfl ?_
      refine ge_iload_n 2 DX11_write_73 rfl ?_
      refine ge_imul DX11_write_74 ?_
      refine ge_iload_n 3 DX11_write_75 rfl ?_
      refine ge_iadd DX11_write_76 ?_
      refine ge_iald DX11_write_77 is_365 al_365 ?_
      refine ge_callVv0 (st := []) cm_X11_304 DX11_write_78 is_362 rfl (okX11_says (kl K) X m31 (m31 365 (ix (((3 : Int32) * y13) + x14)))) rfl rfl (Nat.le_of_ble_eq_true rfl) (by decide) ⟨rfl, rfl⟩ ⟨by show _ ≤ (1 : Nat); omega, by show _ ≤ (12 : Nat); omega⟩ (fun m33 => ?_)
      refine ge_iinc 3 (v := (x14 + (1 : Int32))) (ls' := [(3, .int (x14 + (1 : Int32))), (0, .ref (xad X 362)), (1, .int y12), (2, .int y13)]) DX11_write_81 rfl rfl (by decide) rfl ?_
      refine ge_goto (tgt := 58) DX11_write_84 (by decide) ?_
      refine ge_sub [1, 2, 3, 0] rfl ?_
      exact ih _ _ (by omega) (by omega) m33 (x14 + (1 : Int32))
    · refine ge_widen (cells' := cE) (slots' := sE) (by omega) (by omega) ?_
      refine ge_sub [0, 1, 2] rfl ?_
      exact hk87 m31
set_option maxHeartbeats 4000000 in
set_option maxRecDepth 100000 in
theorem okX11_write (l : Launch) (X : Xt) (hX : xn X = 385) (m0 : Mem) (a1 : Int32) : Ct l yX11_write cX11_write 4 (some .int) rmX11_write ιI X [.ref (xad X 362), .int a1] m0 (fX11_write m0 a1) := by
  refine ct_of (own := RX11) (ls := [(0, .ref (xad X 362)), (1, .int a1)]) (by decide) rfl rfl (Nat.le_of_ble_eq_true rfl) (fun K => ?_)
  show gX11_write K X 0 0 0 [(0, .ref (xad X 362)), (1, .int a1)] [] m0 (fX11_write m0 a1)
  delta fX11_write
  refine ge_iload_n 1 DX11_write_0 rfl ?_
  refine ge_callSi0 (st := []) cm_X11_229 DX11_write_1 (okX11_isWord (kl K) X m0 a1) rfl rfl (Nat.le_of_ble_eq_true rfl) (by decide) ⟨rfl, rfl⟩ ⟨by show _ ≤ (1 : Nat); omega, by show _ ≤ (12 : Nat); omega⟩ (fun r2 m1 => ?_)
  refine ge_if_ne (tgt := 15) DX11_write_4 (by decide) ?_ ?_
  · refine ge_aload_n 0 DX11_write_7 rfl ?_
    refine ge_sipush (v := (-1001 : Int32)) DX11_write_8 rfl ?_
    refine ge_callVi0 (st := []) cm_X11_145 DX11_write_11 is_362 rfl (okX11_refuse (kl K) X m1 (-1001 : Int32)) rfl rfl (Nat.le_of_ble_eq_true rfl) (by decide) ⟨rfl, rfl⟩ ⟨by show _ ≤ (1 : Nat); omega, by show _ ≤ (12 : Nat); omega⟩ (fun r4 m3 => ?_)
    refine ge_widen (cells' := 1) (slots' := 12) (by omega) (by omega) ?_
    exact ge_iret rfl DX11_write_14
  · refine ge_aload_n 0 DX11_write_15 rfl ?_
    refine ge_iconst (v := (0 : Int32)) DX11_write_16 rfl ?_
    refine ge_put DX11_write_17 fp_X11_301 is_362 (by decide) rfl (fun m5 => ?_)
    refine ge_aload_n 0 DX11_write_20 rfl ?_
    refine ge_iload_n 1 DX11_write_21 rfl ?_
    refine ge_callViA (st := []) cm_X11_232 DX11_write_22 is_362 rfl (okX11_meant (kl K) X hX m5 a1) rfl rfl (Nat.le_of_ble_eq_true rfl) (by decide) (dc := 1) (ds := 12) ⟨rfl, rfl⟩ ⟨by show _ + 1 ≤ (1 : Nat); omega, by show _ + 12 ≤ (12 : Nat); omega⟩ (fun r7 m6 => ?_)
    refine ge_istore_n (ls' := [(2, .int r7), (0, .ref (xad X 362)), (1, .int a1)]) DX11_write_25 (by decide) rfl ?_
    refine ge_iload_n 0 DX11_write_26 rfl ?_
    refine ge_if_ge (tgt := 56) DX11_write_27 (by decide) ?_ ?_
    · refine ge_aload_n 1 DX11_write_30 rfl ?_
      refine ge_iload_n 0 DX11_write_31 rfl ?_
      refine ge_iconst (v := (-1 : Int32)) DX11_write_32 rfl ?_
      refine ge_jn (P := fun k => ∀ (v8 : Int32), gX11_write K X (0 + 1) (0 + 12) 43 [(0, .ref (xad X 362)), (1, .int a1)] [.int v8, .ref (xad X 362)] m6 (k v8)) (fun v8 => ?_) (fun j43 hj43 => ?_)
      · refine ge_callVv0 (st := []) cm_X11_304 DX11_write_43 is_362 rfl (okX11_says (kl K) X m6 v8) rfl rfl (Nat.le_of_ble_eq_true rfl) (by decide) ⟨rfl, rfl⟩ ⟨by show _ ≤ (1 : Nat); omega, by show _ ≤ (12 : Nat); omega⟩ (fun m9 => ?_)
        refine ge_aload_n 0 DX11_write_46 rfl ?_
        refine ge_iload_n 1 DX11_write_47 rfl ?_
        refine ge_callVv0 (st := []) cm_X11_307 DX11_write_48 is_362 rfl (okX11_saysNumber (kl K) X m9 a1) rfl rfl (Nat.le_of_ble_eq_true rfl) (by decide) ⟨rfl, rfl⟩ ⟨by show _ ≤ (1 : Nat); omega, by show _ ≤ (12 : Nat); omega⟩ (fun m10 => ?_)
        refine ge_aload_n 0 DX11_write_51 rfl ?_
        refine ge_getI DX11_write_52 fl_X11_301 is_362 (by decide) rfl ?_
        refine ge_widen (cells' := 1) (slots' := 12) (by omega) (by omega) ?_
        exact ge_iret rfl DX11_write_55
      refine ge_icmp_ne (tgt := 41) DX11_write_33 (by decide) ?_ ?_
      · refine ge_bipush (v := (63 : Int32)) DX11_write_36 rfl ?_
        refine ge_goto (tgt := 43) DX11_write_38 (by decide) ?_
        refine ge_sub [1, 2] rfl ?_
        exact hj43 (63 : Int32)
      · refine ge_bipush (v := (33 : Int32)) DX11_write_41 rfl ?_
        refine ge_sub [1, 2] rfl ?_
        exact hj43 (33 : Int32)
    · refine ge_iconst (v := (0 : Int32)) DX11_write_56 rfl ?_
      refine ge_istore_n (ls' := [(3, .int (0 : Int32)), (2, .int r7), (0, .ref (xad X 362)), (1, .int a1)]) DX11_write_57 (by decide) rfl ?_
      refine ge_sub [2, 3, 1, 0] rfl ?_
      refine lX11_write_L58 K X hX (((0 + 1) + 5000 * 0)) (((0 + 12) + 5000 * 0)) a1 r7 (fun m16 => ?_) (by omega) (by omega) 5000 _ _ (by omega) (by omega) m6 (0 : Int32)
      · refine ge_iconst (v := (0 : Int32)) DX11_write_87 rfl ?_
        refine ge_istore_n (ls' := [(3, .int (0 : Int32)), (0, .ref (xad X 362)), (1, .int a1), (2, .int r7)]) DX11_write_88 (by decide) rfl ?_
        refine ge_sub [1, 2, 3, 0] rfl ?_
        refine lX11_write_L89 K X hX ((((0 + 1) + 5000 * 0) + 5000 * 0)) ((((0 + 12) + 5000 * 0) + 5000 * 0)) a1 r7 (fun m22 => ?_) (by omega) (by omega) 5000 _ _ (by omega) (by omega) m16 (0 : Int32)
        · refine ge_aload_n 0 DX11_write_126 rfl ?_
          refine ge_getI DX11_write_127 fl_X11_301 is_362 (by decide) rfl ?_
          refine ge_widen (cells' := 1) (slots' := 12) (by omega) (by omega) ?_
          exact ge_iret rfl DX11_write_130
abbrev gX11_written (K : Kt) (X : Xt) := GE (R := Int32) K rmX11_written X cX11_written 2 RX11 (some .int) (finM K X ιI 0 0)
set_option maxHeartbeats 4000000 in
set_option maxRecDepth 100000 in
theorem okX11_written (l : Launch) (X : Xt) (m0 : Mem) (a1 : Int32) : Ct l yX11_written cX11_written 2 (some .int) rmX11_written ιI X [.ref (xad X 362), .int a1] m0 (fX11_written m0 a1) := by
  refine ct_of (own := RX11) (ls := [(0, .ref (xad X 362)), (1, .int a1)]) (by decide) rfl rfl (Nat.le_of_ble_eq_true rfl) (fun K => ?_)
  show gX11_written K X 0 0 0 [(0, .ref (xad X 362)), (1, .int a1)] [] m0 (fX11_written m0 a1)
  delta fX11_written
  refine ge_iload_n 1 DX11_written_0 rfl ?_
  refine ge_i2l DX11_written_1 ?_
  refine ge_lconst (v := (0 : Int64)) DX11_written_2 rfl ?_
  refine ge_aload_n 0 DX11_written_3 rfl ?_
  refine ge_getI DX11_written_4 fl_X11_301 is_362 (by decide) rfl ?_
  refine ge_iconst (v := (1 : Int32)) DX11_written_7 rfl ?_
  refine ge_isub DX11_written_8 ?_
  refine ge_i2l DX11_written_9 ?_
  refine ge_callSi0 (st := []) cm_X11_89 DX11_written_10 (okX11_isIn (kl K) X m0 ((a1).toInt64) (0 : Int64) ((((m0 362 15) - (1 : Int32))).toInt64)) rfl rfl (Nat.le_of_ble_eq_true rfl) (by decide) ⟨rfl, rfl⟩ ⟨Nat.zero_le _, Nat.zero_le _⟩ (fun r2 m1 => ?_)
  refine ge_if_eq (tgt := 25) DX11_written_13 (by decide) ?_ ?_
  · refine ge_iconst (v := (-1 : Int32)) DX11_written_25 rfl ?_
    exact ge_iret rfl DX11_written_26
  · refine ge_aload_n 0 DX11_written_16 rfl ?_
    refine ge_getR (i := 374) DX11_written_17 fl_X11_43 is_362 (by decide) rfl ?_
    refine ge_iload_n 1 DX11_written_20 rfl ?_
    refine ge_iald DX11_written_21 is_374 al_374 ?_
    refine ge_goto (tgt := 26) DX11_written_22 (by decide) ?_
    exact ge_iret rfl DX11_written_26
abbrev gX11_readsField (K : Kt) (X : Xt) := GE (R := Int32) K rmX11_readsField X cX11_readsField 7 RX11 (some .int) (finM K X ιI 0 0)
set_option maxHeartbeats 4000000 in
set_option maxRecDepth 100000 in
theorem lX11_readsField_L53 (K : Kt) (X : Xt) {k110 : Mem → Int32 → Option (Int32 × Mem)} (y9 : Int32) (y10 : Int32) (y11 : Int32) (y12 : Int32) (y13 : Int32)  (hk110 : ∀ (m15 : Mem) (x16 : Int32), gX11_readsField K X 0 0 110 [(0, .ref (xad X 362)), (1, .int y9), (2, .int y10), (3, .int y11), (4, .int y12), (5, .int y13), (6, .int x16)] [] m15 (k110 m15 x16)) :
    ∀ (n : Nat) (m8 : Mem) (x14 : Int32), gX11_readsField K X 0 0 53 [(0, .ref (xad X 362)), (1, .int y9), (2, .int y10), (3, .int y11), (4, .int y12), (5, .int y13), (6, .int x14)] [] m8 (fX11_readsField_L53 k110 y9 y10 y11 y12 y13 n m8 x14) := by
  intro n
  induction n with
  | zero => intro m8 x14; exact ge_none
  | succ n ih =>
    intro m8 x14
    show gX11_readsField K X 0 0 53 [(0, .ref (xad X 362)), (1, .int y9), (2, .int y10), (3, .int y11), (4, .int y12), (5, .int y13), (6, .int x14)] [] m8 (fX11_readsField_L53_b k110 y9 y10 y11 y12 y13 (fX11_readsField_L53 k110 y9 y10 y11 y12 y13 n) m8 x14)
    delta fX11_readsField_L53_b
    refine ge_aload_n 0 DX11_readsField_53 rfl ?_
    refine ge_getI DX11_readsField_54 fl_X11_159 is_362 (by decide) rfl ?_
    refine ge_iload 5 DX11_readsField_57 rfl ?_
    refine ge_iconst (v := (3 : Int32)) DX11_readsField_59 rfl ?_
    refine ge_iadd DX11_readsField_60 ?_
    refine ge_icmp_ge (tgt := 110) DX11_readsField_61 (by decide) ?_ ?_
    · refine ge_aload_n 0 DX11_readsField_64 rfl ?_
      refine ge_aload_n 0 DX11_readsField_65 rfl ?_
      refine ge_getI DX11_readsField_66 fl_X11_159 is_362 (by decide) rfl ?_
      refine ge_callVi0 (st := []) cm_X11_162 DX11_readsField_69 is_362 rfl (okX11_byteAt (kl K) X m8 (m8 362 27)) rfl rfl (Nat.le_of_ble_eq_true rfl) (by decide) ⟨rfl, rfl⟩ ⟨Nat.zero_le _, Nat.zero_le _⟩ (fun r26 m25 => ?_)
      refine ge_callSi0 (st := []) cm_X11_176 DX11_readsField_72 (okX11_isDigit (kl K) X m25 r26) rfl rfl (Nat.le_of_ble_eq_true rfl) (by decide) ⟨rfl, rfl⟩ ⟨Nat.zero_le _, Nat.zero_le _⟩ (fun r28 m27 => ?_)
      refine ge_if_eq (tgt := 110) DX11_readsField_75 (by decide) ?_ ?_
      · exact hk110 m27 x14
      · refine ge_bipush (v := (10 : Int32)) DX11_readsField_78 rfl ?_
        refine ge_iload 6 DX11_readsField_80 rfl ?_
        refine ge_imul DX11_readsField_82 ?_
        refine ge_aload_n 0 DX11_readsField_83 rfl ?_
        refine ge_aload_n 0 DX11_readsField_84 rfl ?_
        refine ge_getI DX11_readsField_85 fl_X11_159 is_362 (by decide) rfl ?_
        refine ge_callVi0 (st := [.int ((10 : Int32) * x14)]) cm_X11_162 DX11_readsField_88 is_362 rfl (okX11_byteAt (kl K) X m27 (m27 362 27)) rfl rfl (Nat.le_of_ble_eq_true rfl) (by decide) ⟨rfl, rfl⟩ ⟨Nat.zero_le _, Nat.zero_le _⟩ (fun r30 m29 => ?_)
        refine ge_iadd DX11_readsField_91 ?_
        refine ge_bipush (v := (48 : Int32)) DX11_readsField_92 rfl ?_
        refine ge_isub DX11_readsField_94 ?_
        refine ge_topi (fun x31 => ?_)
        refine ge_istore (ls' := [(6, .int x31), (0, .ref (xad X 362)), (1, .int y9), (2, .int y10), (3, .int y11), (4, .int y12), (5, .int y13)]) DX11_readsField_95 (by decide) rfl ?_
        refine ge_aload_n 1 DX11_readsField_97 rfl ?_
        refine ge_dup DX11_readsField_98 rfl ?_
        refine ge_getI DX11_readsField_99 fl_X11_159 is_362 (by decide) rfl ?_
        refine ge_iconst (v := (1 : Int32)) DX11_readsField_102 rfl ?_
        refine ge_iadd DX11_readsField_103 ?_
        refine ge_put DX11_readsField_104 fp_X11_159 is_362 (by decide) rfl (fun m32 => ?_)
        refine ge_goto (tgt := 53) DX11_readsField_107 (by decide) ?_
        refine ge_sub [1, 2, 3, 4, 5, 6, 0] rfl ?_
        exact ih m32 x31
    · exact hk110 m8 x14
set_option maxHeartbeats 4000000 in
set_option maxRecDepth 100000 in
theorem okX11_readsField (l : Launch) (X : Xt) (m0 : Mem) (a1 : Int32) (a2 : Int32) : Ct l yX11_readsField cX11_readsField 7 (some .int) rmX11_readsField ιI X [.ref (xad X 362), .int a1, .int a2] m0 (fX11_readsField m0 a1 a2) := by
  refine ct_of (own := RX11) (ls := [(0, .ref (xad X 362)), (1, .int a1), (2, .int a2)]) (by decide) rfl rfl (Nat.le_of_ble_eq_true rfl) (fun K => ?_)
  show gX11_readsField K X 0 0 0 [(0, .ref (xad X 362)), (1, .int a1), (2, .int a2)] [] m0 (fX11_readsField m0 a1 a2)
  delta fX11_readsField
  refine ge_aload_n 0 DX11_readsField_0 rfl ?_
  refine ge_getI DX11_readsField_1 fl_X11_159 is_362 (by decide) rfl ?_
  refine ge_topi (fun x1 => ?_)
  refine ge_istore_n (ls' := [(3, .int x1), (0, .ref (xad X 362)), (1, .int a1), (2, .int a2)]) DX11_readsField_4 (by decide) rfl ?_
  refine ge_aload_n 1 DX11_readsField_5 rfl ?_
  refine ge_aload_n 1 DX11_readsField_6 rfl ?_
  refine ge_getI DX11_readsField_7 fl_X11_159 is_362 (by decide) rfl ?_
  refine ge_callVi0 (st := []) cm_X11_162 DX11_readsField_10 is_362 rfl (okX11_byteAt (kl K) X m0 (m0 362 27)) rfl rfl (Nat.le_of_ble_eq_true rfl) (by decide) ⟨rfl, rfl⟩ ⟨Nat.zero_le _, Nat.zero_le _⟩ (fun r3 m2 => ?_)
  refine ge_bipush (v := (45 : Int32)) DX11_readsField_13 rfl ?_
  refine ge_jn (P := fun k => ∀ (v4 : Int32), gX11_readsField K X 0 0 23 [(0, .ref (xad X 362)), (1, .int a1), (2, .int a2), (3, .int x1)] [.int v4] m2 (k v4)) (fun v4 => ?_) (fun j23 hj23 => ?_)
  · refine ge_istore (ls' := [(4, .int v4), (0, .ref (xad X 362)), (1, .int a1), (2, .int a2), (3, .int x1)]) DX11_readsField_23 (by decide) rfl ?_
    refine ge_aload_n 1 DX11_readsField_25 rfl ?_
    refine ge_dup DX11_readsField_26 rfl ?_
    refine ge_getI DX11_readsField_27 fl_X11_159 is_362 (by decide) rfl ?_
    refine ge_iload 0 DX11_readsField_30 rfl ?_
    refine ge_jn (P := fun k => ∀ (v5 : Int32), gX11_readsField K X 0 0 40 [(0, .ref (xad X 362)), (1, .int a1), (2, .int a2), (3, .int x1), (4, .int v4)] [.int v5, .int (m2 362 27), .ref (xad X 362)] m2 (k v5)) (fun v5 => ?_) (fun j40 hj40 => ?_)
    · refine ge_iadd DX11_readsField_40 ?_
      refine ge_put DX11_readsField_41 fp_X11_159 is_362 (by decide) rfl (fun m6 => ?_)
      refine ge_aload_n 0 DX11_readsField_44 rfl ?_
      refine ge_getI DX11_readsField_45 fl_X11_159 is_362 (by decide) rfl ?_
      refine ge_topi (fun x7 => ?_)
      refine ge_istore (ls' := [(5, .int x7), (0, .ref (xad X 362)), (1, .int a1), (2, .int a2), (3, .int x1), (4, .int v4)]) DX11_readsField_48 (by decide) rfl ?_
      refine ge_iconst (v := (0 : Int32)) DX11_readsField_50 rfl ?_
      refine ge_istore (ls' := [(6, .int (0 : Int32)), (5, .int x7), (0, .ref (xad X 362)), (1, .int a1), (2, .int a2), (3, .int x1), (4, .int v4)]) DX11_readsField_51 (by decide) rfl ?_
      refine ge_sub [2, 3, 4, 5, 6, 1, 0] rfl ?_
      refine lX11_readsField_L53 K X a1 a2 x1 v4 x7 (fun m17 x18 => ?_) 5000 m6 (0 : Int32)
      · refine ge_aload_n 0 DX11_readsField_110 rfl ?_
        refine ge_getI DX11_readsField_111 fl_X11_159 is_362 (by decide) rfl ?_
        refine ge_iload 5 DX11_readsField_114 rfl ?_
        refine ge_jn (P := fun k => ∀ (m19 : Mem), gX11_readsField K X 0 0 157 [(4, .int v4), (6, .int x18)] [] m19 (k m19)) (fun m19 => ?_) (fun j157 hj157 => ?_)
        · refine ge_iload 0 DX11_readsField_157 rfl ?_
          refine ge_if_eq (tgt := 168) DX11_readsField_159 (by decide) ?_ ?_
          · refine ge_iload 1 DX11_readsField_168 rfl ?_
            exact ge_iret rfl DX11_readsField_170
          · refine ge_iload 1 DX11_readsField_162 rfl ?_
            refine ge_ineg DX11_readsField_164 ?_
            refine ge_goto (tgt := 170) DX11_readsField_165 (by decide) ?_
            exact ge_iret rfl DX11_readsField_170
        refine ge_icmp_ne (tgt := 130) DX11_readsField_116 (by decide) ?_ ?_
        · refine ge_aload_n 0 DX11_readsField_119 rfl ?_
          refine ge_aload_n 0 DX11_readsField_120 rfl ?_
          refine ge_getI DX11_readsField_121 fl_X11_159 is_362 (by decide) rfl ?_
          refine ge_callVv0 (st := []) cm_X11_172 DX11_readsField_124 is_362 rfl (okX11_wrongAt (kl K) X m17 (m17 362 27)) rfl rfl (Nat.le_of_ble_eq_true rfl) (by decide) ⟨rfl, rfl⟩ ⟨Nat.zero_le _, Nat.zero_le _⟩ (fun m20 => ?_)
          refine ge_goto (tgt := 157) DX11_readsField_127 (by decide) ?_
          refine ge_sub [4, 6] rfl ?_
          exact hj157 m20
        · refine ge_aload_n 0 DX11_readsField_130 rfl ?_
          refine ge_iload_n 1 DX11_readsField_131 rfl ?_
          refine ge_iload_n 2 DX11_readsField_132 rfl ?_
          refine ge_iload 4 DX11_readsField_133 rfl ?_
          refine ge_jn (P := fun k => ∀ (v21 : Int32), gX11_readsField K X 0 0 146 [(0, .ref (xad X 362)), (3, .int x1), (4, .int v4), (6, .int x18)] [.int v21, .int a2, .int a1, .ref (xad X 362)] m17 (k v21)) (fun v21 => ?_) (fun j146 hj146 => ?_)
          · refine ge_callVi0 (st := []) cm_X11_289 DX11_readsField_146 is_362 rfl (okX11_canStand (kl K) X m17 a1 a2 v21) rfl rfl (Nat.le_of_ble_eq_true rfl) (by decide) ⟨rfl, rfl⟩ ⟨Nat.zero_le _, Nat.zero_le _⟩ (fun r23 m22 => ?_)
            refine ge_if_ne (tgt := 157) DX11_readsField_149 (by decide) ?_ ?_
            · refine ge_aload_n 0 DX11_readsField_152 rfl ?_
              refine ge_iload_n 1 DX11_readsField_153 rfl ?_
              refine ge_callVv0 (st := []) cm_X11_172 DX11_readsField_154 is_362 rfl (okX11_wrongAt (kl K) X m22 x1) rfl rfl (Nat.le_of_ble_eq_true rfl) (by decide) ⟨rfl, rfl⟩ ⟨Nat.zero_le _, Nat.zero_le _⟩ (fun m24 => ?_)
              refine ge_sub [2, 3] rfl ?_
              exact hj157 m24
            · refine ge_sub [2, 3] rfl ?_
              exact hj157 m22
          refine ge_if_eq (tgt := 144) DX11_readsField_135 (by decide) ?_ ?_
          · refine ge_iload 6 DX11_readsField_144 rfl ?_
            refine ge_sub [0, 3, 4, 6] rfl ?_
            exact hj146 x18
          · refine ge_iload 6 DX11_readsField_138 rfl ?_
            refine ge_ineg DX11_readsField_140 ?_
            refine ge_goto (tgt := 146) DX11_readsField_141 (by decide) ?_
            refine ge_sub [0, 3, 4, 6] rfl ?_
            exact hj146 (-x18)
    refine ge_if_eq (tgt := 39) DX11_readsField_32 (by decide) ?_ ?_
    · refine ge_iconst (v := (0 : Int32)) DX11_readsField_39 rfl ?_
      refine ge_sub [1, 2, 3, 4, 0] rfl ?_
      exact hj40 (0 : Int32)
    · refine ge_iconst (v := (1 : Int32)) DX11_readsField_35 rfl ?_
      refine ge_goto (tgt := 40) DX11_readsField_36 (by decide) ?_
      refine ge_sub [1, 2, 3, 4, 0] rfl ?_
      exact hj40 (1 : Int32)
  refine ge_icmp_ne (tgt := 22) DX11_readsField_15 (by decide) ?_ ?_
  · refine ge_iconst (v := (1 : Int32)) DX11_readsField_18 rfl ?_
    refine ge_goto (tgt := 23) DX11_readsField_19 (by decide) ?_
    refine ge_sub [1, 2, 3, 0] rfl ?_
    exact hj23 (1 : Int32)
  · refine ge_iconst (v := (0 : Int32)) DX11_readsField_22 rfl ?_
    refine ge_sub [1, 2, 3, 0] rfl ?_
    exact hj23 (0 : Int32)
abbrev gX11_read (K : Kt) (X : Xt) := GE (R := Int32) K rmX11_read X cX11_read 5 RX11 (some .int) (finM K X ιI 1 12)
set_option maxHeartbeats 4000000 in
set_option maxRecDepth 100000 in
theorem lX11_read_L137 (K : Kt) (X : Xt) (hX : xn X = 385) (cE sE : Nat) {k232 : Mem → Int32 → Option (Int32 × Mem)} (y13 : Int32)  (hk232 : ∀ (m16 : Mem) (x17 : Int32), gX11_read K X cE sE 232 [(0, .ref (xad X 362)), (1, .int y13), (2, .int x17)] [] m16 (k232 m16 x17)) (hcE : cE ≤ 1) (hsE : sE ≤ 12) :
    ∀ (n c0 s0 : Nat), c0 + n * 0 ≤ cE → s0 + n * 0 ≤ sE → ∀ (m12 : Mem) (x14 : Int32) (x15 : Int32), gX11_read K X c0 s0 137 [(0, .ref (xad X 362)), (1, .int y13), (2, .int x14), (3, .int x15)] [] m12 (fX11_read_L137 k232 y13 n m12 x14 x15) := by
  intro n
  induction n with
  | zero => intro c0 s0 h1 h2 m12 x14 x15; exact ge_none
  | succ n ih =>
    intro c0 s0 h1 h2 m12 x14 x15
    show gX11_read K X c0 s0 137 [(0, .ref (xad X 362)), (1, .int y13), (2, .int x14), (3, .int x15)] [] m12 (fX11_read_L137_b k232 y13 (fX11_read_L137 k232 y13 n) m12 x14 x15)
    delta fX11_read_L137_b
    refine ge_iload_n 3 DX11_read_137 rfl ?_
    refine ge_aload_n 0 DX11_read_138 rfl ?_
    refine ge_iload_n 1 DX11_read_139 rfl ?_
    refine ge_callVi0 (st := [.int x15]) cm_X11_211 DX11_read_140 is_362 rfl (okX11_fieldsOf (kl K) X m12 y13) rfl rfl (Nat.le_of_ble_eq_true rfl) (by decide) ⟨rfl, rfl⟩ ⟨by show _ ≤ (1 : Nat); omega, by show _ ≤ (12 : Nat); omega⟩ (fun r27 m26 => ?_)
    refine ge_icmp_ge (tgt := 232) DX11_read_143 (by decide) ?_ ?_
    · refine ge_aload_n 0 DX11_read_146 rfl ?_
      refine ge_getI DX11_read_147 fl_X11_156 is_362 (by decide) rfl ?_
      refine ge_if_ge (tgt := 232) DX11_read_150 (by decide) ?_ ?_
      · refine ge_aload_n 0 DX11_read_153 rfl ?_
        refine ge_aload_n 0 DX11_read_154 rfl ?_
        refine ge_getI DX11_read_155 fl_X11_159 is_362 (by decide) rfl ?_
        refine ge_callVi0 (st := []) cm_X11_162 DX11_read_158 is_362 rfl (okX11_byteAt (kl K) X m26 (m26 362 27)) rfl rfl (Nat.le_of_ble_eq_true rfl) (by decide) ⟨rfl, rfl⟩ ⟨by show _ ≤ (1 : Nat); omega, by show _ ≤ (12 : Nat); omega⟩ (fun r29 m28 => ?_)
        refine ge_bipush (v := (32 : Int32)) DX11_read_161 rfl ?_
        refine ge_jn (P := fun k => ∀ (m30 : Mem) (x31 : Int32), gX11_read K X c0 s0 226 [(0, .ref (xad X 362)), (1, .int y13), (2, .int x31), (3, .int x15)] [] m30 (k m30 x31)) (fun m30 x31 => ?_) (fun j226 hj226 => ?_)
        · refine ge_iinc 3 (v := (x15 + (1 : Int32))) (ls' := [(3, .int (x15 + (1 : Int32))), (0, .ref (xad X 362)), (1, .int y13), (2, .int x31)]) DX11_read_226 rfl rfl (by decide) rfl ?_
          refine ge_goto (tgt := 137) DX11_read_229 (by decide) ?_
          refine ge_sub [1, 2, 3, 0] rfl ?_
          exact ih _ _ (by omega) (by omega) m30 x31 (x15 + (1 : Int32))
        refine ge_icmp_eq (tgt := 177) DX11_read_163 (by decide) ?_ ?_
        · refine ge_aload_n 0 DX11_read_177 rfl ?_
          refine ge_dup DX11_read_178 rfl ?_
          refine ge_getI DX11_read_179 fl_X11_159 is_362 (by decide) rfl ?_
          refine ge_iconst (v := (1 : Int32)) DX11_read_182 rfl ?_
          refine ge_iadd DX11_read_183 ?_
          refine ge_put DX11_read_184 fp_X11_159 is_362 (by decide) rfl (fun m32 => ?_)
          refine ge_aload_n 0 DX11_read_187 rfl ?_
          refine ge_iload_n 1 DX11_read_188 rfl ?_
          refine ge_aload_n 0 DX11_read_189 rfl ?_
          refine ge_iload_n 1 DX11_read_190 rfl ?_
          refine ge_iload_n 3 DX11_read_191 rfl ?_
          refine ge_callVi0 (st := [.int y13, .ref (xad X 362)]) cm_X11_283 DX11_read_192 is_362 rfl (okX11_fieldAt (kl K) X m32 y13 x15) rfl rfl (Nat.le_of_ble_eq_true rfl) (by decide) ⟨rfl, rfl⟩ ⟨by show _ ≤ (1 : Nat); omega, by show _ ≤ (12 : Nat); omega⟩ (fun r34 m33 => ?_)
          refine ge_callVi0 (st := []) cm_X11_310 DX11_read_195 is_362 rfl (okX11_readsField (kl K) X m33 y13 r34) rfl rfl (Nat.le_of_ble_eq_true rfl) (by decide) ⟨rfl, rfl⟩ ⟨by show _ ≤ (1 : Nat); omega, by show _ ≤ (12 : Nat); omega⟩ (fun r36 m35 => ?_)
          refine ge_istore (ls' := [(4, .int r36), (0, .ref (xad X 362)), (1, .int y13), (2, .int x14), (3, .int x15)]) DX11_read_198 (by decide) rfl ?_
          refine ge_aload_n 1 DX11_read_200 rfl ?_
          refine ge_getI DX11_read_201 fl_X11_156 is_362 (by decide) rfl ?_
          refine ge_jn (P := fun k => ∀ (m37 : Mem) (v38 : Int32), gX11_read K X c0 s0 225 [(0, .ref (xad X 362)), (1, .int y13), (3, .int x15)] [.int v38] m37 (k m37 v38)) (fun m37 v38 => ?_) (fun j225 hj225 => ?_)
          · refine ge_istore_n (ls' := [(2, .int v38), (0, .ref (xad X 362)), (1, .int y13), (3, .int x15)]) DX11_read_225 (by decide) rfl ?_
            refine ge_widen (cells' := c0) (slots' := s0) (by omega) (by omega) ?_
            refine ge_sub [1, 2, 0, 3] rfl ?_
            exact hj226 m37 v38
          refine ge_if_ge (tgt := 224) DX11_read_204 (by decide) ?_ ?_
          · refine ge_aload_n 1 DX11_read_207 rfl ?_
            refine ge_iload_n 2 DX11_read_208 rfl ?_
            refine ge_aload_n 1 DX11_read_209 rfl ?_
            refine ge_iload_n 2 DX11_read_210 rfl ?_
            refine ge_iload_n 4 DX11_read_211 rfl ?_
            refine ge_callVi0 (st := [.int y13, .ref (xad X 362)]) cm_X11_283 DX11_read_212 is_362 rfl (okX11_fieldAt (kl K) X m35 y13 x15) rfl rfl (Nat.le_of_ble_eq_true rfl) (by decide) ⟨rfl, rfl⟩ ⟨by show _ ≤ (1 : Nat); omega, by show _ ≤ (12 : Nat); omega⟩ (fun r40 m39 => ?_)
            refine ge_iload_n 3 DX11_read_215 rfl ?_
            refine ge_iload 0 DX11_read_216 rfl ?_
            refine ge_callVi0 (st := []) cm_X11_292 DX11_read_218 is_362 rfl (okX11_laidIn (kl K) X m39 y13 r40 x14 r36) rfl rfl (Nat.le_of_ble_eq_true rfl) (by decide) ⟨rfl, rfl⟩ ⟨by show _ ≤ (1 : Nat); omega, by show _ ≤ (12 : Nat); omega⟩ (fun r42 m41 => ?_)
            refine ge_goto (tgt := 225) DX11_read_221 (by decide) ?_
            refine ge_widen (cells' := c0) (slots' := s0) (by omega) (by omega) ?_
            refine ge_sub [1, 2, 4] rfl ?_
            exact hj225 m41 r42
          · refine ge_iload_n 3 DX11_read_224 rfl ?_
            refine ge_widen (cells' := c0) (slots' := s0) (by omega) (by omega) ?_
            refine ge_sub [1, 2, 4] rfl ?_
            exact hj225 m35 x14
        · refine ge_aload_n 0 DX11_read_166 rfl ?_
          refine ge_aload_n 0 DX11_read_167 rfl ?_
          refine ge_getI DX11_read_168 fl_X11_159 is_362 (by decide) rfl ?_
          refine ge_callVv0 (st := []) cm_X11_172 DX11_read_171 is_362 rfl (okX11_wrongAt (kl K) X m28 (m28 362 27)) rfl rfl (Nat.le_of_ble_eq_true rfl) (by decide) ⟨rfl, rfl⟩ ⟨by show _ ≤ (1 : Nat); omega, by show _ ≤ (12 : Nat); omega⟩ (fun m43 => ?_)
          refine ge_goto (tgt := 226) DX11_read_174 (by decide) ?_
          refine ge_widen (cells' := c0) (slots' := s0) (by omega) (by omega) ?_
          exact hj226 m43 x14
      · refine ge_widen (cells' := cE) (slots' := sE) (by omega) (by omega) ?_
        refine ge_sub [0, 1, 2] rfl ?_
        exact hk232 m26 x14
    · refine ge_widen (cells' := cE) (slots' := sE) (by omega) (by omega) ?_
      refine ge_sub [0, 1, 2] rfl ?_
      exact hk232 m26 x14
set_option maxHeartbeats 4000000 in
set_option maxRecDepth 100000 in
theorem lX11_read_L23 (K : Kt) (X : Xt) (hX : xn X = 385) (cE sE : Nat) {k50 : Mem → Option (Int32 × Mem)}   (hk50 : ∀ (m6 : Mem), gX11_read K X cE sE 50 [(0, .ref (xad X 362))] [] m6 (k50 m6)) (hcE : cE ≤ 1) (hsE : sE ≤ 12) :
    ∀ (n c0 s0 : Nat), c0 + n * 0 ≤ cE → s0 + n * 0 ≤ sE → ∀ (m5 : Mem), gX11_read K X c0 s0 23 [(0, .ref (xad X 362))] [] m5 (fX11_read_L23 k50  n m5) := by
  intro n
  induction n with
  | zero => intro c0 s0 h1 h2 m5; exact ge_none
  | succ n ih =>
    intro c0 s0 h1 h2 m5
    show gX11_read K X c0 s0 23 [(0, .ref (xad X 362))] [] m5 (fX11_read_L23_b k50  (fX11_read_L23 k50  n) m5)
    delta fX11_read_L23_b
    refine ge_aload_n 0 DX11_read_23 rfl ?_
    refine ge_aload_n 0 DX11_read_24 rfl ?_
    refine ge_getI DX11_read_25 fl_X11_159 is_362 (by decide) rfl ?_
    refine ge_callVi0 (st := []) cm_X11_162 DX11_read_28 is_362 rfl (okX11_byteAt (kl K) X m5 (m5 362 27)) rfl rfl (Nat.le_of_ble_eq_true rfl) (by decide) ⟨rfl, rfl⟩ ⟨by show _ ≤ (1 : Nat); omega, by show _ ≤ (12 : Nat); omega⟩ (fun r49 m48 => ?_)
    refine ge_callSi0 (st := []) cm_X11_165 DX11_read_31 (okX11_isLetter (kl K) X m48 r49) rfl rfl (Nat.le_of_ble_eq_true rfl) (by decide) ⟨rfl, rfl⟩ ⟨by show _ ≤ (1 : Nat); omega, by show _ ≤ (12 : Nat); omega⟩ (fun r51 m50 => ?_)
    refine ge_if_eq (tgt := 50) DX11_read_34 (by decide) ?_ ?_
    · refine ge_widen (cells' := cE) (slots' := sE) (by omega) (by omega) ?_
      exact hk50 m50
    · refine ge_aload_n 0 DX11_read_37 rfl ?_
      refine ge_dup DX11_read_38 rfl ?_
      refine ge_getI DX11_read_39 fl_X11_159 is_362 (by decide) rfl ?_
      refine ge_iconst (v := (1 : Int32)) DX11_read_42 rfl ?_
      refine ge_iadd DX11_read_43 ?_
      refine ge_put DX11_read_44 fp_X11_159 is_362 (by decide) rfl (fun m52 => ?_)
      refine ge_goto (tgt := 23) DX11_read_47 (by decide) ?_
      exact ih _ _ (by omega) (by omega) m52
set_option maxHeartbeats 4000000 in
set_option maxRecDepth 100000 in
theorem okX11_read (l : Launch) (X : Xt) (hX : xn X = 385) (m0 : Mem) : Ct l yX11_read cX11_read 5 (some .int) rmX11_read ιI X [.ref (xad X 362)] m0 (fX11_read m0) := by
  refine ct_of (own := RX11) (ls := [(0, .ref (xad X 362))]) (by decide) rfl rfl (Nat.le_of_ble_eq_true rfl) (fun K => ?_)
  show gX11_read K X 0 0 0 [(0, .ref (xad X 362))] [] m0 (fX11_read m0)
  delta fX11_read
  refine ge_aload_n 0 DX11_read_0 rfl ?_
  refine ge_aload_n 0 DX11_read_1 rfl ?_
  refine ge_getI DX11_read_2 fl_X11_148 is_362 (by decide) rfl ?_
  refine ge_put DX11_read_5 fp_X11_153 is_362 (by decide) rfl (fun m1 => ?_)
  refine ge_aload_n 0 DX11_read_8 rfl ?_
  refine ge_iconst (v := (0 : Int32)) DX11_read_9 rfl ?_
  refine ge_put DX11_read_10 fp_X11_148 is_362 (by decide) rfl (fun m2 => ?_)
  refine ge_aload_n 0 DX11_read_13 rfl ?_
  refine ge_iconst (v := (0 : Int32)) DX11_read_14 rfl ?_
  refine ge_put DX11_read_15 fp_X11_159 is_362 (by decide) rfl (fun m3 => ?_)
  refine ge_aload_n 0 DX11_read_18 rfl ?_
  refine ge_iconst (v := (-1 : Int32)) DX11_read_19 rfl ?_
  refine ge_put DX11_read_20 fp_X11_156 is_362 (by decide) rfl (fun m4 => ?_)
  refine lX11_read_L23 K X hX ((0 + 5000 * 0)) ((0 + 5000 * 0))  (fun m7 => ?_) (by omega) (by omega) 5000 _ _ (by omega) (by omega) m4
  · refine ge_aload_n 0 DX11_read_50 rfl ?_
    refine ge_getI DX11_read_51 fl_X11_159 is_362 (by decide) rfl ?_
    refine ge_iconst (v := (1 : Int32)) DX11_read_54 rfl ?_
    refine ge_jn (P := fun k => ∀ (m8 : Mem) (v9 : Int32), gX11_read K X (0 + 5000 * 0) (0 + 5000 * 0) 116 [(0, .ref (xad X 362))] [.int v9] m8 (k m8 v9)) (fun m8 v9 => ?_) (fun j116 hj116 => ?_)
    · refine ge_istore_n (ls' := [(1, .int v9), (0, .ref (xad X 362))]) DX11_read_116 (by decide) rfl ?_
      refine ge_iload_n 0 DX11_read_117 rfl ?_
      refine ge_if_ge (tgt := 129) DX11_read_118 (by decide) ?_ ?_
      · refine ge_bipush (v := (-10 : Int32)) DX11_read_121 rfl ?_
        refine ge_aload_n 1 DX11_read_123 rfl ?_
        refine ge_getI DX11_read_124 fl_X11_159 is_362 (by decide) rfl ?_
        refine ge_isub DX11_read_127 ?_
        refine ge_widen (cells' := 1) (slots' := 12) (by omega) (by omega) ?_
        exact ge_iret rfl DX11_read_128
      · refine ge_aload_n 1 DX11_read_129 rfl ?_
        refine ge_iload_n 0 DX11_read_130 rfl ?_
        refine ge_callVi0 (st := []) cm_X11_114 DX11_read_131 is_362 rfl (okX11_valueOf (kl K) X m8 v9) rfl rfl (Nat.le_of_ble_eq_true rfl) (by decide) ⟨rfl, rfl⟩ ⟨by show _ ≤ (1 : Nat); omega, by show _ ≤ (12 : Nat); omega⟩ (fun r11 m10 => ?_)
        refine ge_istore_n (ls' := [(2, .int r11), (1, .int v9), (0, .ref (xad X 362))]) DX11_read_134 (by decide) rfl ?_
        refine ge_iconst (v := (0 : Int32)) DX11_read_135 rfl ?_
        refine ge_istore_n (ls' := [(3, .int (0 : Int32)), (2, .int r11), (1, .int v9), (0, .ref (xad X 362))]) DX11_read_136 (by decide) rfl ?_
        refine ge_sub [3, 2, 1, 0] rfl ?_
        refine lX11_read_L137 K X hX (((0 + 5000 * 0) + 5000 * 0)) (((0 + 5000 * 0) + 5000 * 0)) v9 (fun m18 x19 => ?_) (by omega) (by omega) 5000 _ _ (by omega) (by omega) m10 r11 (0 : Int32)
        · refine ge_aload_n 0 DX11_read_232 rfl ?_
          refine ge_getI DX11_read_233 fl_X11_156 is_362 (by decide) rfl ?_
          refine ge_jn (P := fun k => ∀ (m20 : Mem), gX11_read K X ((0 + 5000 * 0) + 5000 * 0) ((0 + 5000 * 0) + 5000 * 0) 258 [(0, .ref (xad X 362)), (1, .int v9), (2, .int x19)] [] m20 (k m20)) (fun m20 => ?_) (fun j258 hj258 => ?_)
          · refine ge_aload_n 0 DX11_read_258 rfl ?_
            refine ge_getI DX11_read_259 fl_X11_156 is_362 (by decide) rfl ?_
            refine ge_jn (P := fun k => ∀ (m21 : Mem), gX11_read K X (((0 + 5000 * 0) + 5000 * 0) + 1) (((0 + 5000 * 0) + 5000 * 0) + 12) 284 [(0, .ref (xad X 362)), (2, .int x19)] [] m21 (k m21)) (fun m21 => ?_) (fun j284 hj284 => ?_)
            · refine ge_aload_n 0 DX11_read_284 rfl ?_
              refine ge_getI DX11_read_285 fl_X11_156 is_362 (by decide) rfl ?_
              refine ge_if_ge (tgt := 295) DX11_read_288 (by decide) ?_ ?_
              · refine ge_iload_n 1 DX11_read_291 rfl ?_
                refine ge_goto (tgt := 302) DX11_read_292 (by decide) ?_
                refine ge_widen (cells' := 1) (slots' := 12) (by omega) (by omega) ?_
                exact ge_iret rfl DX11_read_302
              · refine ge_bipush (v := (-10 : Int32)) DX11_read_295 rfl ?_
                refine ge_aload_n 0 DX11_read_297 rfl ?_
                refine ge_getI DX11_read_298 fl_X11_156 is_362 (by decide) rfl ?_
                refine ge_isub DX11_read_301 ?_
                refine ge_widen (cells' := 1) (slots' := 12) (by omega) (by omega) ?_
                exact ge_iret rfl DX11_read_302
            refine ge_if_ge (tgt := 284) DX11_read_262 (by decide) ?_ ?_
            · refine ge_aload_n 0 DX11_read_265 rfl ?_
              refine ge_iload_n 2 DX11_read_266 rfl ?_
              refine ge_callViA (st := []) cm_X11_232 DX11_read_267 is_362 rfl (okX11_meant (kl K) X hX m20 x19) rfl rfl (Nat.le_of_ble_eq_true rfl) (by decide) (dc := 1) (ds := 12) ⟨rfl, rfl⟩ ⟨by show _ + 1 ≤ (1 : Nat); omega, by show _ + 12 ≤ (12 : Nat); omega⟩ (fun r23 m22 => ?_)
              refine ge_iload_n 1 DX11_read_270 rfl ?_
              refine ge_icmp_eq (tgt := 284) DX11_read_271 (by decide) ?_ ?_
              · refine ge_widen (cells' := (((0 + 5000 * 0) + 5000 * 0) + 1)) (slots' := (((0 + 5000 * 0) + 5000 * 0) + 12)) (by omega) (by omega) ?_
                refine ge_sub [0, 2] rfl ?_
                exact hj284 m22
              · refine ge_aload_n 0 DX11_read_274 rfl ?_
                refine ge_aload_n 0 DX11_read_275 rfl ?_
                refine ge_getI DX11_read_276 fl_X11_153 is_362 (by decide) rfl ?_
                refine ge_iconst (v := (1 : Int32)) DX11_read_279 rfl ?_
                refine ge_iadd DX11_read_280 ?_
                refine ge_callVv0 (st := []) cm_X11_172 DX11_read_281 is_362 rfl (okX11_wrongAt (kl K) X m22 ((m22 362 28) + (1 : Int32))) rfl rfl (Nat.le_of_ble_eq_true rfl) (by decide) ⟨rfl, rfl⟩ ⟨by show _ ≤ (1 : Nat); omega, by show _ ≤ (12 : Nat); omega⟩ (fun m24 => ?_)
                refine ge_widen (cells' := (((0 + 5000 * 0) + 5000 * 0) + 1)) (slots' := (((0 + 5000 * 0) + 5000 * 0) + 12)) (by omega) (by omega) ?_
                refine ge_sub [0, 2] rfl ?_
                exact hj284 m24
            · refine ge_widen (cells' := (((0 + 5000 * 0) + 5000 * 0) + 1)) (slots' := (((0 + 5000 * 0) + 5000 * 0) + 12)) (by omega) (by omega) ?_
              refine ge_sub [0, 2] rfl ?_
              exact hj284 m20
          refine ge_if_ge (tgt := 258) DX11_read_236 (by decide) ?_ ?_
          · refine ge_aload_n 0 DX11_read_239 rfl ?_
            refine ge_getI DX11_read_240 fl_X11_159 is_362 (by decide) rfl ?_
            refine ge_aload_n 0 DX11_read_243 rfl ?_
            refine ge_getI DX11_read_244 fl_X11_153 is_362 (by decide) rfl ?_
            refine ge_icmp_ge (tgt := 258) DX11_read_247 (by decide) ?_ ?_
            · refine ge_aload_n 0 DX11_read_250 rfl ?_
              refine ge_aload_n 0 DX11_read_251 rfl ?_
              refine ge_getI DX11_read_252 fl_X11_159 is_362 (by decide) rfl ?_
              refine ge_callVv0 (st := []) cm_X11_172 DX11_read_255 is_362 rfl (okX11_wrongAt (kl K) X m18 (m18 362 27)) rfl rfl (Nat.le_of_ble_eq_true rfl) (by decide) ⟨rfl, rfl⟩ ⟨by show _ ≤ (1 : Nat); omega, by show _ ≤ (12 : Nat); omega⟩ (fun m25 => ?_)
              refine ge_widen (cells' := ((0 + 5000 * 0) + 5000 * 0)) (slots' := ((0 + 5000 * 0) + 5000 * 0)) (by omega) (by omega) ?_
              exact hj258 m25
            · refine ge_widen (cells' := ((0 + 5000 * 0) + 5000 * 0)) (slots' := ((0 + 5000 * 0) + 5000 * 0)) (by omega) (by omega) ?_
              exact hj258 m18
          · refine ge_widen (cells' := ((0 + 5000 * 0) + 5000 * 0)) (slots' := ((0 + 5000 * 0) + 5000 * 0)) (by omega) (by omega) ?_
            exact hj258 m18
    refine ge_jn (P := fun k => gX11_read K X (0 + 5000 * 0) (0 + 5000 * 0) 66 [(0, .ref (xad X 362))] [] m7 k) ?_ (fun j66 hj66 => ?_)
    · refine ge_iconst (v := (-1 : Int32)) DX11_read_66 rfl ?_
      refine ge_goto (tgt := 116) DX11_read_67 (by decide) ?_
      refine ge_widen (cells' := (0 + 5000 * 0)) (slots' := (0 + 5000 * 0)) (by omega) (by omega) ?_
      exact hj116 m7 (-1 : Int32)
    refine ge_icmp_lt (tgt := 66) DX11_read_55 (by decide) ?_ ?_
    · exact hj66
    · refine ge_aload_n 0 DX11_read_58 rfl ?_
      refine ge_getI DX11_read_59 fl_X11_159 is_362 (by decide) rfl ?_
      refine ge_iconst (v := (3 : Int32)) DX11_read_62 rfl ?_
      refine ge_icmp_le (tgt := 70) DX11_read_63 (by decide) ?_ ?_
      · exact hj66
      · refine ge_aload_n 0 DX11_read_70 rfl ?_
        refine ge_aload_n 0 DX11_read_71 rfl ?_
        refine ge_getR (i := 373) DX11_read_72 fl_X11_40 is_362 (by decide) rfl ?_
        refine ge_iconst (v := (0 : Int32)) DX11_read_75 rfl ?_
        refine ge_iald DX11_read_76 is_373 al_373 ?_
        refine ge_aload_n 0 DX11_read_77 rfl ?_
        refine ge_getI DX11_read_78 fl_X11_159 is_362 (by decide) rfl ?_
        refine ge_iconst (v := (1 : Int32)) DX11_read_81 rfl ?_
        refine ge_jn (P := fun k => ∀ (v44 : Int32), gX11_read K X (0 + 5000 * 0) (0 + 5000 * 0) 95 [(0, .ref (xad X 362))] [.int v44, .int (m7 373 (ix (0 : Int32))), .ref (xad X 362)] m7 (k v44)) (fun v44 => ?_) (fun j95 hj95 => ?_)
        · refine ge_aload_n 0 DX11_read_95 rfl ?_
          refine ge_getI DX11_read_96 fl_X11_159 is_362 (by decide) rfl ?_
          refine ge_iconst (v := (2 : Int32)) DX11_read_99 rfl ?_
          refine ge_jn (P := fun k => ∀ (v45 : Int32), gX11_read K X (0 + 5000 * 0) (0 + 5000 * 0) 113 [(0, .ref (xad X 362))] [.int v45, .int v44, .int (m7 373 (ix (0 : Int32))), .ref (xad X 362)] m7 (k v45)) (fun v45 => ?_) (fun j113 hj113 => ?_)
          · refine ge_callVi0 (st := []) cm_X11_221 DX11_read_113 is_362 rfl (okX11_formNamed (kl K) X m7 (m7 373 (ix (0 : Int32))) v44 v45) rfl rfl (Nat.le_of_ble_eq_true rfl) (by decide) ⟨rfl, rfl⟩ ⟨by show _ ≤ (1 : Nat); omega, by show _ ≤ (12 : Nat); omega⟩ (fun r47 m46 => ?_)
            refine ge_widen (cells' := (0 + 5000 * 0)) (slots' := (0 + 5000 * 0)) (by omega) (by omega) ?_
            exact hj116 m46 r47
          refine ge_icmp_le (tgt := 112) DX11_read_100 (by decide) ?_ ?_
          · refine ge_aload_n 0 DX11_read_103 rfl ?_
            refine ge_getR (i := 373) DX11_read_104 fl_X11_40 is_362 (by decide) rfl ?_
            refine ge_iconst (v := (2 : Int32)) DX11_read_107 rfl ?_
            refine ge_iald DX11_read_108 is_373 al_373 ?_
            refine ge_goto (tgt := 113) DX11_read_109 (by decide) ?_
            exact hj113 (m7 373 (ix (2 : Int32)))
          · refine ge_iconst (v := (0 : Int32)) DX11_read_112 rfl ?_
            exact hj113 (0 : Int32)
        refine ge_icmp_le (tgt := 94) DX11_read_82 (by decide) ?_ ?_
        · refine ge_aload_n 0 DX11_read_85 rfl ?_
          refine ge_getR (i := 373) DX11_read_86 fl_X11_40 is_362 (by decide) rfl ?_
          refine ge_iconst (v := (1 : Int32)) DX11_read_89 rfl ?_
          refine ge_iald DX11_read_90 is_373 al_373 ?_
          refine ge_goto (tgt := 95) DX11_read_91 (by decide) ?_
          exact hj95 (m7 373 (ix (1 : Int32)))
        · refine ge_iconst (v := (0 : Int32)) DX11_read_94 rfl ?_
          exact hj95 (0 : Int32)
abbrev gX11_put (K : Kt) (X : Xt) := GE (R := Int32) K rmX11_put X cX11_put 4 RX11 (some .int) (finM K X ιI 0 0)
set_option maxHeartbeats 4000000 in
set_option maxRecDepth 100000 in
theorem okX11_put (l : Launch) (X : Xt) (m0 : Mem) (a1 : Int32) (a2 : Int32) : Ct l yX11_put cX11_put 4 (some .int) rmX11_put ιI X [.ref (xad X 362), .int a1, .int a2] m0 (fX11_put m0 a1 a2) := by
  refine ct_of (own := RX11) (ls := [(0, .ref (xad X 362)), (1, .int a1), (2, .int a2)]) (by decide) rfl rfl (Nat.le_of_ble_eq_true rfl) (fun K => ?_)
  show gX11_put K X 0 0 0 [(0, .ref (xad X 362)), (1, .int a1), (2, .int a2)] [] m0 (fX11_put m0 a1 a2)
  delta fX11_put
  refine ge_iload_n 1 DX11_put_0 rfl ?_
  refine ge_callSi0 (st := []) cm_X11_313 DX11_put_1 (okX11_isCell (kl K) X m0 a1) rfl rfl (Nat.le_of_ble_eq_true rfl) (by decide) ⟨rfl, rfl⟩ ⟨Nat.zero_le _, Nat.zero_le _⟩ (fun r2 m1 => ?_)
  refine ge_jn (P := fun k => ∀ (m3 : Mem), gX11_put K X 0 0 14 [(0, .ref (xad X 362))] [] m3 (k m3)) (fun m3 => ?_) (fun j14 hj14 => ?_)
  · refine ge_aload_n 0 DX11_put_14 rfl ?_
    refine ge_sipush (v := (-1001 : Int32)) DX11_put_15 rfl ?_
    refine ge_callVi0 (st := []) cm_X11_145 DX11_put_18 is_362 rfl (okX11_refuse (kl K) X m3 (-1001 : Int32)) rfl rfl (Nat.le_of_ble_eq_true rfl) (by decide) ⟨rfl, rfl⟩ ⟨Nat.zero_le _, Nat.zero_le _⟩ (fun r5 m4 => ?_)
    exact ge_iret rfl DX11_put_21
  refine ge_if_eq (tgt := 14) DX11_put_4 (by decide) ?_ ?_
  · refine ge_sub [0] rfl ?_
    exact hj14 m1
  · refine ge_iload_n 2 DX11_put_7 rfl ?_
    refine ge_callSi0 (st := []) cm_X11_229 DX11_put_8 (okX11_isWord (kl K) X m1 a2) rfl rfl (Nat.le_of_ble_eq_true rfl) (by decide) ⟨rfl, rfl⟩ ⟨Nat.zero_le _, Nat.zero_le _⟩ (fun r7 m6 => ?_)
    refine ge_if_ne (tgt := 22) DX11_put_11 (by decide) ?_ ?_
    · refine ge_sub [0] rfl ?_
      exact hj14 m6
    · refine ge_aload_n 0 DX11_put_22 rfl ?_
      refine ge_callVv0 (st := []) cm_X11_298 DX11_put_23 is_362 rfl (okX11_notes (kl K) X m6) rfl rfl (Nat.le_of_ble_eq_true rfl) (by decide) ⟨rfl, rfl⟩ ⟨Nat.zero_le _, Nat.zero_le _⟩ (fun m8 => ?_)
      refine ge_aload_n 0 DX11_put_26 rfl ?_
      refine ge_getR (i := 375) DX11_put_27 fl_X11_46 is_362 (by decide) rfl ?_
      refine ge_bipush (v := (8 : Int32)) DX11_put_30 rfl ?_
      refine ge_iload_n 1 DX11_put_32 rfl ?_
      refine ge_iadd DX11_put_33 ?_
      refine ge_iald DX11_put_34 is_375 al_375 ?_
      refine ge_topi (fun x9 => ?_)
      refine ge_istore_n (ls' := [(3, .int x9), (0, .ref (xad X 362)), (1, .int a1), (2, .int a2)]) DX11_put_35 (by decide) rfl ?_
      refine ge_aload_n 1 DX11_put_36 rfl ?_
      refine ge_getR (i := 375) DX11_put_37 fl_X11_46 is_362 (by decide) rfl ?_
      refine ge_bipush (v := (8 : Int32)) DX11_put_40 rfl ?_
      refine ge_iload_n 2 DX11_put_42 rfl ?_
      refine ge_iadd DX11_put_43 ?_
      refine ge_iload_n 3 DX11_put_44 rfl ?_
      refine ge_iast DX11_put_45 is_375 al_375 (fun m10 => ?_)
      refine ge_iload_n 0 DX11_put_46 rfl ?_
      exact ge_iret rfl DX11_put_47
abbrev gX11_cell (K : Kt) (X : Xt) := GE (R := Int32) K rmX11_cell X cX11_cell 2 RX11 (some .int) (finM K X ιI 0 0)
set_option maxHeartbeats 4000000 in
set_option maxRecDepth 100000 in
theorem okX11_cell (l : Launch) (X : Xt) (m0 : Mem) (a1 : Int32) : Ct l yX11_cell cX11_cell 2 (some .int) rmX11_cell ιI X [.ref (xad X 362), .int a1] m0 (fX11_cell m0 a1) := by
  refine ct_of (own := RX11) (ls := [(0, .ref (xad X 362)), (1, .int a1)]) (by decide) rfl rfl (Nat.le_of_ble_eq_true rfl) (fun K => ?_)
  show gX11_cell K X 0 0 0 [(0, .ref (xad X 362)), (1, .int a1)] [] m0 (fX11_cell m0 a1)
  delta fX11_cell
  refine ge_iload_n 1 DX11_cell_0 rfl ?_
  refine ge_callSi0 (st := []) cm_X11_313 DX11_cell_1 (okX11_isCell (kl K) X m0 a1) rfl rfl (Nat.le_of_ble_eq_true rfl) (by decide) ⟨rfl, rfl⟩ ⟨Nat.zero_le _, Nat.zero_le _⟩ (fun r2 m1 => ?_)
  refine ge_if_eq (tgt := 19) DX11_cell_4 (by decide) ?_ ?_
  · refine ge_aload_n 0 DX11_cell_19 rfl ?_
    refine ge_sipush (v := (-1001 : Int32)) DX11_cell_20 rfl ?_
    refine ge_callVi0 (st := []) cm_X11_145 DX11_cell_23 is_362 rfl (okX11_refuse (kl K) X m1 (-1001 : Int32)) rfl rfl (Nat.le_of_ble_eq_true rfl) (by decide) ⟨rfl, rfl⟩ ⟨Nat.zero_le _, Nat.zero_le _⟩ (fun r4 m3 => ?_)
    exact ge_iret rfl DX11_cell_26
  · refine ge_aload_n 0 DX11_cell_7 rfl ?_
    refine ge_getR (i := 375) DX11_cell_8 fl_X11_46 is_362 (by decide) rfl ?_
    refine ge_bipush (v := (8 : Int32)) DX11_cell_11 rfl ?_
    refine ge_iload_n 1 DX11_cell_13 rfl ?_
    refine ge_iadd DX11_cell_14 ?_
    refine ge_iald DX11_cell_15 is_375 al_375 ?_
    refine ge_goto (tgt := 26) DX11_cell_16 (by decide) ?_
    exact ge_iret rfl DX11_cell_26
abbrev gX11_copy (K : Kt) (X : Xt) := GE (R := Int32) K rmX11_copy X cX11_copy 5 RX11 (some .int) (finM K X ιI 0 0)
set_option maxHeartbeats 4000000 in
set_option maxRecDepth 100000 in
theorem lX11_copy_L83 (K : Kt) (X : Xt) {k114 : Mem → Option (Int32 × Mem)} (y17 : Int32) (y18 : Int32)  (hk114 : ∀ (m20 : Mem), gX11_copy K X 0 0 114 [(3, .int y18)] [] m20 (k114 m20)) :
    ∀ (n : Nat) (m16 : Mem) (x19 : Int32), gX11_copy K X 0 0 83 [(0, .ref (xad X 362)), (2, .int y17), (3, .int y18), (4, .int x19)] [] m16 (fX11_copy_L83 k114 y17 y18 n m16 x19) := by
  intro n
  induction n with
  | zero => intro m16 x19; exact ge_none
  | succ n ih =>
    intro m16 x19
    show gX11_copy K X 0 0 83 [(0, .ref (xad X 362)), (2, .int y17), (3, .int y18), (4, .int x19)] [] m16 (fX11_copy_L83_b k114 y17 y18 (fX11_copy_L83 k114 y17 y18 n) m16 x19)
    delta fX11_copy_L83_b
    refine ge_iload 3 DX11_copy_83 rfl ?_
    refine ge_iload_n 2 DX11_copy_85 rfl ?_
    refine ge_icmp_ge (tgt := 114) DX11_copy_86 (by decide) ?_ ?_
    · refine ge_aload_n 0 DX11_copy_89 rfl ?_
      refine ge_getR (i := 375) DX11_copy_90 fl_X11_46 is_362 (by decide) rfl ?_
      refine ge_bipush (v := (8 : Int32)) DX11_copy_93 rfl ?_
      refine ge_iload_n 1 DX11_copy_95 rfl ?_
      refine ge_iadd DX11_copy_96 ?_
      refine ge_iload 3 DX11_copy_97 rfl ?_
      refine ge_iadd DX11_copy_99 ?_
      refine ge_aload_n 0 DX11_copy_100 rfl ?_
      refine ge_getR (i := 383) DX11_copy_101 fl_X11_70 is_362 (by decide) rfl ?_
      refine ge_iload 3 DX11_copy_104 rfl ?_
      refine ge_iald DX11_copy_106 is_383 al_383 ?_
      refine ge_iast DX11_copy_107 is_375 al_375 (fun m22 => ?_)
      refine ge_iinc 3 (v := (x19 + (1 : Int32))) (ls' := [(4, .int (x19 + (1 : Int32))), (0, .ref (xad X 362)), (2, .int y17), (3, .int y18)]) DX11_copy_108 rfl rfl (by decide) rfl ?_
      refine ge_goto (tgt := 83) DX11_copy_111 (by decide) ?_
      refine ge_sub [1, 2, 3, 0] rfl ?_
      exact ih m22 (x19 + (1 : Int32))
    · refine ge_sub [2] rfl ?_
      exact hk114 m16
set_option maxHeartbeats 4000000 in
set_option maxRecDepth 100000 in
theorem lX11_copy_L49 (K : Kt) (X : Xt) {k80 : Mem → Option (Int32 × Mem)} (y10 : Int32) (y11 : Int32) (y12 : Int32)  (hk80 : ∀ (m14 : Mem), gX11_copy K X 0 0 80 [(0, .ref (xad X 362)), (2, .int y11), (3, .int y12)] [] m14 (k80 m14)) :
    ∀ (n : Nat) (m9 : Mem) (x13 : Int32), gX11_copy K X 0 0 49 [(0, .ref (xad X 362)), (1, .int y10), (2, .int y11), (3, .int y12), (4, .int x13)] [] m9 (fX11_copy_L49 k80 y10 y11 y12 n m9 x13) := by
  intro n
  induction n with
  | zero => intro m9 x13; exact ge_none
  | succ n ih =>
    intro m9 x13
    show gX11_copy K X 0 0 49 [(0, .ref (xad X 362)), (1, .int y10), (2, .int y11), (3, .int y12), (4, .int x13)] [] m9 (fX11_copy_L49_b k80 y10 y11 y12 (fX11_copy_L49 k80 y10 y11 y12 n) m9 x13)
    delta fX11_copy_L49_b
    refine ge_iload 4 DX11_copy_49 rfl ?_
    refine ge_iload_n 3 DX11_copy_51 rfl ?_
    refine ge_icmp_ge (tgt := 80) DX11_copy_52 (by decide) ?_ ?_
    · refine ge_aload_n 0 DX11_copy_55 rfl ?_
      refine ge_getR (i := 383) DX11_copy_56 fl_X11_70 is_362 (by decide) rfl ?_
      refine ge_iload 4 DX11_copy_59 rfl ?_
      refine ge_aload_n 0 DX11_copy_61 rfl ?_
      refine ge_getR (i := 375) DX11_copy_62 fl_X11_46 is_362 (by decide) rfl ?_
      refine ge_bipush (v := (8 : Int32)) DX11_copy_65 rfl ?_
      refine ge_iload_n 1 DX11_copy_67 rfl ?_
      refine ge_iadd DX11_copy_68 ?_
      refine ge_iload 4 DX11_copy_69 rfl ?_
      refine ge_iadd DX11_copy_71 ?_
      refine ge_iald DX11_copy_72 is_375 al_375 ?_
      refine ge_iast DX11_copy_73 is_383 al_383 (fun m23 => ?_)
      refine ge_iinc 4 (v := (x13 + (1 : Int32))) (ls' := [(4, .int (x13 + (1 : Int32))), (0, .ref (xad X 362)), (1, .int y10), (2, .int y11), (3, .int y12)]) DX11_copy_74 rfl rfl (by decide) rfl ?_
      refine ge_goto (tgt := 49) DX11_copy_77 (by decide) ?_
      refine ge_sub [1, 2, 3, 4, 0] rfl ?_
      exact ih m23 (x13 + (1 : Int32))
    · refine ge_sub [0, 2, 3] rfl ?_
      exact hk80 m9
set_option maxHeartbeats 4000000 in
set_option maxRecDepth 100000 in
theorem okX11_copy (l : Launch) (X : Xt) (m0 : Mem) (a1 : Int32) (a2 : Int32) (a3 : Int32) : Ct l yX11_copy cX11_copy 5 (some .int) rmX11_copy ιI X [.ref (xad X 362), .int a1, .int a2, .int a3] m0 (fX11_copy m0 a1 a2 a3) := by
  refine ct_of (own := RX11) (ls := [(0, .ref (xad X 362)), (1, .int a1), (2, .int a2), (3, .int a3)]) (by decide) rfl rfl (Nat.le_of_ble_eq_true rfl) (fun K => ?_)
  show gX11_copy K X 0 0 0 [(0, .ref (xad X 362)), (1, .int a1), (2, .int a2), (3, .int a3)] [] m0 (fX11_copy m0 a1 a2 a3)
  delta fX11_copy
  refine ge_iload_n 1 DX11_copy_0 rfl ?_
  refine ge_callSi0 (st := []) cm_X11_313 DX11_copy_1 (okX11_isCell (kl K) X m0 a1) rfl rfl (Nat.le_of_ble_eq_true rfl) (by decide) ⟨rfl, rfl⟩ ⟨Nat.zero_le _, Nat.zero_le _⟩ (fun r2 m1 => ?_)
  refine ge_jn (P := fun k => ∀ (m3 : Mem), gX11_copy K X 0 0 34 [(0, .ref (xad X 362))] [] m3 (k m3)) (fun m3 => ?_) (fun j34 hj34 => ?_)
  · refine ge_aload_n 0 DX11_copy_34 rfl ?_
    refine ge_sipush (v := (-1001 : Int32)) DX11_copy_35 rfl ?_
    refine ge_callVi0 (st := []) cm_X11_145 DX11_copy_38 is_362 rfl (okX11_refuse (kl K) X m3 (-1001 : Int32)) rfl rfl (Nat.le_of_ble_eq_true rfl) (by decide) ⟨rfl, rfl⟩ ⟨Nat.zero_le _, Nat.zero_le _⟩ (fun r5 m4 => ?_)
    exact ge_iret rfl DX11_copy_41
  refine ge_if_eq (tgt := 34) DX11_copy_4 (by decide) ?_ ?_
  · refine ge_sub [0] rfl ?_
    exact hj34 m1
  · refine ge_iload_n 2 DX11_copy_7 rfl ?_
    refine ge_callSi0 (st := []) cm_X11_313 DX11_copy_8 (okX11_isCell (kl K) X m1 a2) rfl rfl (Nat.le_of_ble_eq_true rfl) (by decide) ⟨rfl, rfl⟩ ⟨Nat.zero_le _, Nat.zero_le _⟩ (fun r7 m6 => ?_)
    refine ge_if_eq (tgt := 34) DX11_copy_11 (by decide) ?_ ?_
    · refine ge_sub [0] rfl ?_
      exact hj34 m6
    · refine ge_iload_n 3 DX11_copy_14 rfl ?_
      refine ge_if_lt (tgt := 34) DX11_copy_15 (by decide) ?_ ?_
      · refine ge_sub [0] rfl ?_
        exact hj34 m6
      · refine ge_iload_n 3 DX11_copy_18 rfl ?_
        refine ge_bipush (v := (32 : Int32)) DX11_copy_19 rfl ?_
        refine ge_iload_n 1 DX11_copy_21 rfl ?_
        refine ge_isub DX11_copy_22 ?_
        refine ge_icmp_gt (tgt := 34) DX11_copy_23 (by decide) ?_ ?_
        · refine ge_sub [0] rfl ?_
          exact hj34 m6
        · refine ge_iload_n 3 DX11_copy_26 rfl ?_
          refine ge_bipush (v := (32 : Int32)) DX11_copy_27 rfl ?_
          refine ge_iload_n 2 DX11_copy_29 rfl ?_
          refine ge_isub DX11_copy_30 ?_
          refine ge_icmp_le (tgt := 42) DX11_copy_31 (by decide) ?_ ?_
          · refine ge_sub [0] rfl ?_
            exact hj34 m6
          · refine ge_aload_n 0 DX11_copy_42 rfl ?_
            refine ge_callVv0 (st := []) cm_X11_298 DX11_copy_43 is_362 rfl (okX11_notes (kl K) X m6) rfl rfl (Nat.le_of_ble_eq_true rfl) (by decide) ⟨rfl, rfl⟩ ⟨Nat.zero_le _, Nat.zero_le _⟩ (fun m8 => ?_)
            refine ge_iconst (v := (0 : Int32)) DX11_copy_46 rfl ?_
            refine ge_istore (ls' := [(4, .int (0 : Int32)), (0, .ref (xad X 362)), (1, .int a1), (2, .int a2), (3, .int a3)]) DX11_copy_47 (by decide) rfl ?_
            refine ge_sub [1, 2, 3, 4, 0] rfl ?_
            refine lX11_copy_L49 K X a1 a2 a3 (fun m15 => ?_) 5000 m8 (0 : Int32)
            · refine ge_iconst (v := (0 : Int32)) DX11_copy_80 rfl ?_
              refine ge_istore (ls' := [(4, .int (0 : Int32)), (0, .ref (xad X 362)), (2, .int a2), (3, .int a3)]) DX11_copy_81 (by decide) rfl ?_
              refine ge_sub [1, 2, 3, 0] rfl ?_
              refine lX11_copy_L83 K X a2 a3 (fun m21 => ?_) 5000 m15 (0 : Int32)
              · refine ge_iload_n 0 DX11_copy_114 rfl ?_
                exact ge_iret rfl DX11_copy_115
abbrev gX11_holders (K : Kt) (X : Xt) := GE (R := Int32) K rmX11_holders X cX11_holders 4 RX11 (some .int) (finM K X ιI 33 396)
set_option maxHeartbeats 4000000 in
set_option maxRecDepth 100000 in
theorem lX11_holders_L22 (K : Kt) (X : Xt) (hX : xn X = 385) (cE sE : Nat) {k65 : Mem → Int32 → Option (Int32 × Mem)} (y6 : Int32)  (hk65 : ∀ (m9 : Mem) (x10 : Int32), gX11_holders K X cE sE 65 [(2, .int x10)] [] m9 (k65 m9 x10)) (hcE : cE ≤ 33) (hsE : sE ≤ 396) :
    ∀ (n c0 s0 : Nat), c0 + n * 1 ≤ cE → s0 + n * 12 ≤ sE → ∀ (m5 : Mem) (x7 : Int32) (x8 : Int32), gX11_holders K X c0 s0 22 [(0, .ref (xad X 362)), (1, .int y6), (2, .int x7), (3, .int x8)] [] m5 (fX11_holders_L22 k65 y6 n m5 x7 x8) := by
  intro n
  induction n with
  | zero => intro c0 s0 h1 h2 m5 x7 x8; exact ge_none
  | succ n ih =>
    intro c0 s0 h1 h2 m5 x7 x8
    show gX11_holders K X c0 s0 22 [(0, .ref (xad X 362)), (1, .int y6), (2, .int x7), (3, .int x8)] [] m5 (fX11_holders_L22_b k65 y6 (fX11_holders_L22 k65 y6 n) m5 x7 x8)
    delta fX11_holders_L22_b
    refine ge_iload_n 3 DX11_holders_22 rfl ?_
    refine ge_bipush (v := (32 : Int32)) DX11_holders_23 rfl ?_
    refine ge_icmp_ge (tgt := 65) DX11_holders_25 (by decide) ?_ ?_
    · refine ge_iload_n 2 DX11_holders_28 rfl ?_
      refine ge_aload_n 0 DX11_holders_29 rfl ?_
      refine ge_aload_n 0 DX11_holders_30 rfl ?_
      refine ge_getR (i := 375) DX11_holders_31 fl_X11_46 is_362 (by decide) rfl ?_
      refine ge_bipush (v := (8 : Int32)) DX11_holders_34 rfl ?_
      refine ge_iload_n 3 DX11_holders_36 rfl ?_
      refine ge_iadd DX11_holders_37 ?_
      refine ge_iald DX11_holders_38 is_375 al_375 ?_
      refine ge_callViA (st := [.int x7]) cm_X11_232 DX11_holders_39 is_362 rfl (okX11_meant (kl K) X hX m5 (m5 375 (ix ((8 : Int32) + x8)))) rfl rfl (Nat.le_of_ble_eq_true rfl) (by decide) (dc := 1) (ds := 12) ⟨rfl, rfl⟩ ⟨by show _ + 1 ≤ (33 : Nat); omega, by show _ + 12 ≤ (396 : Nat); omega⟩ (fun r14 m13 => ?_)
      refine ge_aload_n 0 DX11_holders_42 rfl ?_
      refine ge_iload_n 1 DX11_holders_43 rfl ?_
      refine ge_callVi0 (st := [.int r14, .int x7]) cm_X11_235 DX11_holders_44 is_362 rfl (okX11_asked (kl K) X m13 y6) rfl rfl (Nat.le_of_ble_eq_true rfl) (by decide) ⟨rfl, rfl⟩ ⟨by show _ ≤ (33 : Nat); omega, by show _ ≤ (396 : Nat); omega⟩ (fun r16 m15 => ?_)
      refine ge_jn (P := fun k => ∀ (v17 : Int32), gX11_holders K X (c0 + 1) (s0 + 12) 57 [(0, .ref (xad X 362)), (1, .int y6), (3, .int x8)] [.int v17, .int x7] m15 (k v17)) (fun v17 => ?_) (fun j57 hj57 => ?_)
      · refine ge_ior DX11_holders_57 ?_
        refine ge_topi (fun x18 => ?_)
        refine ge_istore_n (ls' := [(2, .int x18), (0, .ref (xad X 362)), (1, .int y6), (3, .int x8)]) DX11_holders_58 (by decide) rfl ?_
        refine ge_iinc 3 (v := (x8 + (1 : Int32))) (ls' := [(3, .int (x8 + (1 : Int32))), (2, .int x18), (0, .ref (xad X 362)), (1, .int y6)]) DX11_holders_59 rfl rfl (by decide) rfl ?_
        refine ge_goto (tgt := 22) DX11_holders_62 (by decide) ?_
        refine ge_sub [2, 3, 1, 0] rfl ?_
        exact ih _ _ (by omega) (by omega) m15 x18 (x8 + (1 : Int32))
      refine ge_icmp_ne (tgt := 56) DX11_holders_47 (by decide) ?_ ?_
      · refine ge_iconst (v := (1 : Int32)) DX11_holders_50 rfl ?_
        refine ge_iload_n 3 DX11_holders_51 rfl ?_
        refine ge_ishl DX11_holders_52 ?_
        refine ge_goto (tgt := 57) DX11_holders_53 (by decide) ?_
        refine ge_sub [0, 1, 3] rfl ?_
        exact hj57 ((1 : Int32) <<< (x8 &&& 31))
      · refine ge_iconst (v := (0 : Int32)) DX11_holders_56 rfl ?_
        refine ge_sub [0, 1, 3] rfl ?_
        exact hj57 (0 : Int32)
    · refine ge_widen (cells' := cE) (slots' := sE) (by omega) (by omega) ?_
      refine ge_sub [2] rfl ?_
      exact hk65 m5 x7
set_option maxHeartbeats 4000000 in
set_option maxRecDepth 100000 in
theorem okX11_holders (l : Launch) (X : Xt) (hX : xn X = 385) (m0 : Mem) (a1 : Int32) : Ct l yX11_holders cX11_holders 4 (some .int) rmX11_holders ιI X [.ref (xad X 362), .int a1] m0 (fX11_holders m0 a1) := by
  refine ct_of (own := RX11) (ls := [(0, .ref (xad X 362)), (1, .int a1)]) (by decide) rfl rfl (Nat.le_of_ble_eq_true rfl) (fun K => ?_)
  show gX11_holders K X 0 0 0 [(0, .ref (xad X 362)), (1, .int a1)] [] m0 (fX11_holders m0 a1)
  delta fX11_holders
  refine ge_aload_n 0 DX11_holders_0 rfl ?_
  refine ge_iload_n 1 DX11_holders_1 rfl ?_
  refine ge_callVi0 (st := []) cm_X11_235 DX11_holders_2 is_362 rfl (okX11_asked (kl K) X m0 a1) rfl rfl (Nat.le_of_ble_eq_true rfl) (by decide) ⟨rfl, rfl⟩ ⟨by show _ ≤ (33 : Nat); omega, by show _ ≤ (396 : Nat); omega⟩ (fun r2 m1 => ?_)
  refine ge_bipush (v := (-9 : Int32)) DX11_holders_5 rfl ?_
  refine ge_icmp_ne (tgt := 18) DX11_holders_7 (by decide) ?_ ?_
  · refine ge_aload_n 0 DX11_holders_10 rfl ?_
    refine ge_sipush (v := (-1001 : Int32)) DX11_holders_11 rfl ?_
    refine ge_callVi0 (st := []) cm_X11_145 DX11_holders_14 is_362 rfl (okX11_refuse (kl K) X m1 (-1001 : Int32)) rfl rfl (Nat.le_of_ble_eq_true rfl) (by decide) ⟨rfl, rfl⟩ ⟨by show _ ≤ (33 : Nat); omega, by show _ ≤ (396 : Nat); omega⟩ (fun r4 m3 => ?_)
    refine ge_widen (cells' := 33) (slots' := 396) (by omega) (by omega) ?_
    exact ge_iret rfl DX11_holders_17
  · refine ge_iconst (v := (0 : Int32)) DX11_holders_18 rfl ?_
    refine ge_istore_n (ls' := [(2, .int (0 : Int32)), (0, .ref (xad X 362)), (1, .int a1)]) DX11_holders_19 (by decide) rfl ?_
    refine ge_iconst (v := (0 : Int32)) DX11_holders_20 rfl ?_
    refine ge_istore_n (ls' := [(3, .int (0 : Int32)), (2, .int (0 : Int32)), (0, .ref (xad X 362)), (1, .int a1)]) DX11_holders_21 (by decide) rfl ?_
    refine ge_sub [2, 3, 1, 0] rfl ?_
    refine lX11_holders_L22 K X hX ((0 + 33 * 1)) ((0 + 33 * 12)) a1 (fun m11 x12 => ?_) (by omega) (by omega) 33 _ _ (by omega) (by omega) m1 (0 : Int32) (0 : Int32)
    · refine ge_iload_n 0 DX11_holders_65 rfl ?_
      refine ge_widen (cells' := 33) (slots' := 396) (by omega) (by omega) ?_
      exact ge_iret rfl DX11_holders_66
abbrev gX11_firstOf (K : Kt) (X : Xt) := GE (R := Int32) K rmX11_firstOf X cX11_firstOf 4 RX11 (some .int) (finM K X ιI 1 12)
set_option maxHeartbeats 4000000 in
set_option maxRecDepth 100000 in
theorem okX11_firstOf (l : Launch) (X : Xt) (hX : xn X = 385) (m0 : Mem) (a1 : Int32) : Ct l yX11_firstOf cX11_firstOf 4 (some .int) rmX11_firstOf ιI X [.ref (xad X 362), .int a1] m0 (fX11_firstOf m0 a1) := by
  refine ct_of (own := RX11) (ls := [(0, .ref (xad X 362)), (1, .int a1)]) (by decide) rfl rfl (Nat.le_of_ble_eq_true rfl) (fun K => ?_)
  show gX11_firstOf K X 0 0 0 [(0, .ref (xad X 362)), (1, .int a1)] [] m0 (fX11_firstOf m0 a1)
  delta fX11_firstOf
  refine ge_aload_n 0 DX11_firstOf_0 rfl ?_
  refine ge_iload_n 1 DX11_firstOf_1 rfl ?_
  refine ge_callViA (st := []) cm_X11_232 DX11_firstOf_2 is_362 rfl (okX11_meant (kl K) X hX m0 a1) rfl rfl (Nat.le_of_ble_eq_true rfl) (by decide) (dc := 1) (ds := 12) ⟨rfl, rfl⟩ ⟨by show _ + 1 ≤ (1 : Nat); omega, by show _ + 12 ≤ (12 : Nat); omega⟩ (fun r2 m1 => ?_)
  refine ge_istore_n (ls' := [(2, .int r2), (0, .ref (xad X 362)), (1, .int a1)]) DX11_firstOf_5 (by decide) rfl ?_
  refine ge_aload_n 1 DX11_firstOf_6 rfl ?_
  refine ge_iload_n 0 DX11_firstOf_7 rfl ?_
  refine ge_iconst (v := (0 : Int32)) DX11_firstOf_8 rfl ?_
  refine ge_callVi0 (st := []) cm_X11_283 DX11_firstOf_9 is_362 rfl (okX11_fieldAt (kl K) X m1 r2 (0 : Int32)) rfl rfl (Nat.le_of_ble_eq_true rfl) (by decide) ⟨rfl, rfl⟩ ⟨by show _ ≤ (1 : Nat); omega, by show _ ≤ (12 : Nat); omega⟩ (fun r4 m3 => ?_)
  refine ge_istore_n (ls' := [(3, .int r4), (2, .int r2), (0, .ref (xad X 362)), (1, .int a1)]) DX11_firstOf_12 (by decide) rfl ?_
  refine ge_iload_n 0 DX11_firstOf_13 rfl ?_
  refine ge_if_ge (tgt := 21) DX11_firstOf_14 (by decide) ?_ ?_
  · refine ge_iconst (v := (0 : Int32)) DX11_firstOf_17 rfl ?_
    refine ge_goto (tgt := 28) DX11_firstOf_18 (by decide) ?_
    refine ge_widen (cells' := 1) (slots' := 12) (by omega) (by omega) ?_
    exact ge_iret rfl DX11_firstOf_28
  · refine ge_aload_n 2 DX11_firstOf_21 rfl ?_
    refine ge_iload_n 1 DX11_firstOf_22 rfl ?_
    refine ge_iload_n 0 DX11_firstOf_23 rfl ?_
    refine ge_iload_n 3 DX11_firstOf_24 rfl ?_
    refine ge_callVi0 (st := []) cm_X11_107 DX11_firstOf_25 is_362 rfl (okX11_stands (kl K) X m3 r2 r4 a1) rfl rfl (Nat.le_of_ble_eq_true rfl) (by decide) ⟨rfl, rfl⟩ ⟨by show _ ≤ (1 : Nat); omega, by show _ ≤ (12 : Nat); omega⟩ (fun r6 m5 => ?_)
    refine ge_widen (cells' := 1) (slots' := 12) (by omega) (by omega) ?_
    exact ge_iret rfl DX11_firstOf_28
abbrev gX11_costsOf (K : Kt) (X : Xt) := GE (R := Int32) K rmX11_costsOf X cX11_costsOf 5 RX11 (some .int) (finM K X ιI 2 24)
set_option maxHeartbeats 4000000 in
set_option maxRecDepth 100000 in
theorem okX11_costsOf (l : Launch) (X : Xt) (hX : xn X = 385) (m0 : Mem) (a1 : Int32) : Ct l yX11_costsOf cX11_costsOf 5 (some .int) rmX11_costsOf ιI X [.ref (xad X 362), .int a1] m0 (fX11_costsOf m0 a1) := by
  refine ct_of (own := RX11) (ls := [(0, .ref (xad X 362)), (1, .int a1)]) (by decide) rfl rfl (Nat.le_of_ble_eq_true rfl) (fun K => ?_)
  show gX11_costsOf K X 0 0 0 [(0, .ref (xad X 362)), (1, .int a1)] [] m0 (fX11_costsOf m0 a1)
  delta fX11_costsOf
  refine ge_aload_n 0 DX11_costsOf_0 rfl ?_
  refine ge_iload_n 1 DX11_costsOf_1 rfl ?_
  refine ge_callViA (st := []) cm_X11_232 DX11_costsOf_2 is_362 rfl (okX11_meant (kl K) X hX m0 a1) rfl rfl (Nat.le_of_ble_eq_true rfl) (by decide) (dc := 1) (ds := 12) ⟨rfl, rfl⟩ ⟨by show _ + 1 ≤ (2 : Nat); omega, by show _ + 12 ≤ (24 : Nat); omega⟩ (fun r2 m1 => ?_)
  refine ge_istore_n (ls' := [(2, .int r2), (0, .ref (xad X 362)), (1, .int a1)]) DX11_costsOf_5 (by decide) rfl ?_
  refine ge_iload_n 0 DX11_costsOf_6 rfl ?_
  refine ge_if_ge (tgt := 12) DX11_costsOf_7 (by decide) ?_ ?_
  · refine ge_iconst (v := (0 : Int32)) DX11_costsOf_10 rfl ?_
    refine ge_widen (cells' := 2) (slots' := 24) (by omega) (by omega) ?_
    exact ge_iret rfl DX11_costsOf_11
  · refine ge_iconst (v := (1 : Int32)) DX11_costsOf_12 rfl ?_
    refine ge_aload_n 1 DX11_costsOf_13 rfl ?_
    refine ge_iload_n 0 DX11_costsOf_14 rfl ?_
    refine ge_callVi0 (st := [.int (1 : Int32)]) cm_X11_211 DX11_costsOf_15 is_362 rfl (okX11_fieldsOf (kl K) X m1 r2) rfl rfl (Nat.le_of_ble_eq_true rfl) (by decide) ⟨rfl, rfl⟩ ⟨by show _ ≤ (2 : Nat); omega, by show _ ≤ (24 : Nat); omega⟩ (fun r4 m3 => ?_)
    refine ge_iadd DX11_costsOf_18 ?_
    refine ge_topi (fun x5 => ?_)
    refine ge_istore_n (ls' := [(3, .int x5), (2, .int r2), (0, .ref (xad X 362)), (1, .int a1)]) DX11_costsOf_19 (by decide) rfl ?_
    refine ge_aload_n 2 DX11_costsOf_20 rfl ?_
    refine ge_iload_n 3 DX11_costsOf_21 rfl ?_
    refine ge_callViA (st := []) cm_X11_316 DX11_costsOf_22 is_362 rfl (okX11_firstOf (kl K) X hX m3 a1) rfl rfl (Nat.le_of_ble_eq_true rfl) (by decide) (dc := 1) (ds := 12) ⟨rfl, rfl⟩ ⟨by show _ + 1 ≤ (2 : Nat); omega, by show _ + 12 ≤ (24 : Nat); omega⟩ (fun r7 m6 => ?_)
    refine ge_istore (ls' := [(4, .int r7), (3, .int x5), (2, .int r2), (0, .ref (xad X 362)), (1, .int a1)]) DX11_costsOf_25 (by decide) rfl ?_
    refine ge_aload_n 3 DX11_costsOf_27 rfl ?_
    refine ge_getR (i := 364) DX11_costsOf_28 fl_X11_13 is_362 (by decide) rfl ?_
    refine ge_iload_n 2 DX11_costsOf_31 rfl ?_
    refine ge_iald DX11_costsOf_32 is_364 al_364 ?_
    refine ge_ite (fun hx8 => ?_) (fun hx8 => ?_)
    · refine ge_tsw (v := (1 : Int32)) (tgt := 72) DX11_costsOf_33 hx8 (by decide) (by decide) rfl (by decide) ?_
      refine ge_iload_n 1 DX11_costsOf_72 rfl ?_
      refine ge_iconst (v := (2 : Int32)) DX11_costsOf_73 rfl ?_
      refine ge_iadd DX11_costsOf_74 ?_
      refine ge_widen (cells' := 2) (slots' := 24) (by omega) (by omega) ?_
      exact ge_iret rfl DX11_costsOf_75
    refine ge_ite (fun hx9 => ?_) (fun hx9 => ?_)
    · refine ge_tsw (v := (2 : Int32)) (tgt := 76) DX11_costsOf_33 hx9 (by decide) (by decide) rfl (by decide) ?_
      refine ge_iconst (v := (3 : Int32)) DX11_costsOf_76 rfl ?_
      refine ge_iload_n 1 DX11_costsOf_77 rfl ?_
      refine ge_imul DX11_costsOf_78 ?_
      refine ge_widen (cells' := 2) (slots' := 24) (by omega) (by omega) ?_
      exact ge_iret rfl DX11_costsOf_79
    refine ge_ite (fun hx10 => ?_) (fun hx10 => ?_)
    · refine ge_tsw (v := (3 : Int32)) (tgt := 80) DX11_costsOf_33 hx10 (by decide) (by decide) rfl (by decide) ?_
      refine ge_iconst (v := (2 : Int32)) DX11_costsOf_80 rfl ?_
      refine ge_iload_n 1 DX11_costsOf_81 rfl ?_
      refine ge_iconst (v := (2 : Int32)) DX11_costsOf_82 rfl ?_
      refine ge_iadd DX11_costsOf_83 ?_
      refine ge_imul DX11_costsOf_84 ?_
      refine ge_widen (cells' := 2) (slots' := 24) (by omega) (by omega) ?_
      exact ge_iret rfl DX11_costsOf_85
    refine ge_ite (fun hx11 => ?_) (fun hx11 => ?_)
    · refine ge_tsw (v := (4 : Int32)) (tgt := 86) DX11_costsOf_33 hx11 (by decide) (by decide) rfl (by decide) ?_
      refine ge_iconst (v := (3 : Int32)) DX11_costsOf_86 rfl ?_
      refine ge_iload_n 1 DX11_costsOf_87 rfl ?_
      refine ge_imul DX11_costsOf_88 ?_
      refine ge_iconst (v := (1 : Int32)) DX11_costsOf_89 rfl ?_
      refine ge_isub DX11_costsOf_90 ?_
      refine ge_widen (cells' := 2) (slots' := 24) (by omega) (by omega) ?_
      exact ge_iret rfl DX11_costsOf_91
    refine ge_ite (fun hx12 => ?_) (fun hx12 => ?_)
    · refine ge_tsw (v := (5 : Int32)) (tgt := 92) DX11_costsOf_33 hx12 (by decide) (by decide) rfl (by decide) ?_
      refine ge_bipush (v := (9 : Int32)) DX11_costsOf_92 rfl ?_
      refine ge_widen (cells' := 2) (slots' := 24) (by omega) (by omega) ?_
      exact ge_iret rfl DX11_costsOf_94
    refine ge_ite (fun hx13 => ?_) (fun hx13 => ?_)
    · refine ge_tsw (v := (6 : Int32)) (tgt := 95) DX11_costsOf_33 hx13 (by decide) (by decide) rfl (by decide) ?_
      refine ge_iconst (v := (2 : Int32)) DX11_costsOf_95 rfl ?_
      refine ge_iload_n 1 DX11_costsOf_96 rfl ?_
      refine ge_iconst (v := (2 : Int32)) DX11_costsOf_97 rfl ?_
      refine ge_iadd DX11_costsOf_98 ?_
      refine ge_imul DX11_costsOf_99 ?_
      refine ge_iload 0 DX11_costsOf_100 rfl ?_
      refine ge_if_ge (tgt := 111) DX11_costsOf_102 (by decide) ?_ ?_
      · refine ge_iload 0 DX11_costsOf_105 rfl ?_
        refine ge_ineg DX11_costsOf_107 ?_
        refine ge_goto (tgt := 113) DX11_costsOf_108 (by decide) ?_
        refine ge_iadd DX11_costsOf_113 ?_
        refine ge_widen (cells' := 2) (slots' := 24) (by omega) (by omega) ?_
        exact ge_iret rfl DX11_costsOf_114
      · refine ge_iload 0 DX11_costsOf_111 rfl ?_
        refine ge_iadd DX11_costsOf_113 ?_
        refine ge_widen (cells' := 2) (slots' := 24) (by omega) (by omega) ?_
        exact ge_iret rfl DX11_costsOf_114
    refine ge_tswd (tgt := 115) DX11_costsOf_33 (sw_out 1 6 rfl (by decide) (fun i hi => by rcases i with _ | _ | _ | _ | _ | _ | i <;> first | exact absurd hi (by omega) | assumption)) (by decide) ?_
    refine ge_iload_n 1 DX11_costsOf_115 rfl ?_
    refine ge_widen (cells' := 2) (slots' := 24) (by omega) (by omega) ?_
    exact ge_iret rfl DX11_costsOf_116
abbrev gX11_round (K : Kt) (X : Xt) := GE (R := Int32) K rmX11_round X cX11_round 2 RX11 (some .int) (finM K X ιI 0 0)
set_option maxHeartbeats 4000000 in
set_option maxRecDepth 100000 in
theorem okX11_round (l : Launch) (X : Xt) (m0 : Mem) (a0 : Int32) : Ct l yX11_round cX11_round 2 (some .int) rmX11_round ιI X [.int a0] m0 (fX11_round m0 a0) := by
  refine ct_of (own := RX11) (ls := [(0, .int a0)]) (by decide) rfl rfl (Nat.le_of_ble_eq_true rfl) (fun K => ?_)
  show gX11_round K X 0 0 0 [(0, .int a0)] [] m0 (fX11_round m0 a0)
  delta fX11_round
  refine ge_iload_n 0 DX11_round_0 rfl ?_
  refine ge_bipush (v := (32 : Int32)) DX11_round_1 rfl ?_
  refine ge_iremc DX11_round_3 rfl ?_
  refine ge_topi (fun x1 => ?_)
  refine ge_istore_n (ls' := [(1, .int x1), (0, .int a0)]) DX11_round_4 (by decide) rfl ?_
  refine ge_iload_n 0 DX11_round_5 rfl ?_
  refine ge_if_ge (tgt := 16) DX11_round_6 (by decide) ?_ ?_
  · refine ge_iload_n 0 DX11_round_9 rfl ?_
    refine ge_bipush (v := (32 : Int32)) DX11_round_10 rfl ?_
    refine ge_iadd DX11_round_12 ?_
    refine ge_goto (tgt := 17) DX11_round_13 (by decide) ?_
    exact ge_iret rfl DX11_round_17
  · refine ge_iload_n 0 DX11_round_16 rfl ?_
    exact ge_iret rfl DX11_round_17
