abbrev gX11_isIn (K : Kt) (X : Xt) := GE (R := Int32) K rmX11_isIn X cX11_isIn 6 RX11 (some .boolean) (finM K X ιI 0 0)
set_option maxHeartbeats 4000000 in
set_option maxRecDepth 100000 in
theorem okX11_isIn (l : Launch) (X : Xt) (m0 : Mem) (a0 : Int64) (a2 : Int64) (a4 : Int64) : Ct l yX11_isIn cX11_isIn 6 (some .boolean) rmX11_isIn ιI X [.long a0, .long a2, .long a4] m0 (fX11_isIn m0 a0 a2 a4) := by
  refine ct_of (own := RX11) (ls := [(0, .long a0), (2, .long a2), (4, .long a4)]) (by decide) rfl rfl (Nat.le_of_ble_eq_true rfl) (fun K => ?_)
  show gX11_isIn K X 0 0 0 [(0, .long a0), (2, .long a2), (4, .long a4)] [] m0 (fX11_isIn m0 a0 a2 a4)
  delta fX11_isIn
  refine ge_lload_n 0 DX11_isIn_0 rfl ?_
  refine ge_lload_n 1 DX11_isIn_1 rfl ?_
  refine ge_lcmp DX11_isIn_2 ?_
  refine ge_if_lt (tgt := 17) DX11_isIn_3 (by decide) ?_ ?_
  · refine ge_iconst (v := (0 : Int32)) DX11_isIn_17 rfl ?_
    exact ge_zretc rfl rfl DX11_isIn_18
  · refine ge_lload_n 0 DX11_isIn_6 rfl ?_
    refine ge_lload 2 DX11_isIn_7 rfl ?_
    refine ge_lcmp DX11_isIn_9 ?_
    refine ge_if_gt (tgt := 17) DX11_isIn_10 (by decide) ?_ ?_
    · refine ge_iconst (v := (0 : Int32)) DX11_isIn_17 rfl ?_
      exact ge_zretc rfl rfl DX11_isIn_18
    · refine ge_iconst (v := (1 : Int32)) DX11_isIn_13 rfl ?_
      refine ge_goto (tgt := 18) DX11_isIn_14 (by decide) ?_
      exact ge_zretc rfl rfl DX11_isIn_18
abbrev gX11_refuse (K : Kt) (X : Xt) := GE (R := Int32) K rmX11_refuse X cX11_refuse 2 RX11 (some .int) (finM K X ιI 0 0)
set_option maxHeartbeats 4000000 in
set_option maxRecDepth 100000 in
theorem okX11_refuse (l : Launch) (X : Xt) (m0 : Mem) (a1 : Int32) : Ct l yX11_refuse cX11_refuse 2 (some .int) rmX11_refuse ιI X [.ref (xad X 362), .int a1] m0 (fX11_refuse m0 a1) := by
  refine ct_of (own := RX11) (ls := [(0, .ref (xad X 362)), (1, .int a1)]) (by decide) rfl rfl (Nat.le_of_ble_eq_true rfl) (fun K => ?_)
  show gX11_refuse K X 0 0 0 [(0, .ref (xad X 362)), (1, .int a1)] [] m0 (fX11_refuse m0 a1)
  delta fX11_refuse
  refine ge_aload_n 0 DX11_refuse_0 rfl ?_
  refine ge_getR (i := 363) DX11_refuse_1 fl_X11_7 is_362 (by decide) rfl ?_
  refine ge_sipush (v := (-1001 : Int32)) DX11_refuse_4 rfl ?_
  refine ge_iload_n 1 DX11_refuse_7 rfl ?_
  refine ge_isub DX11_refuse_8 ?_
  refine ge_dup2 DX11_refuse_9 rfl rfl ?_
  refine ge_iald DX11_refuse_10 is_363 al_363 ?_
  refine ge_iconst (v := (1 : Int32)) DX11_refuse_11 rfl ?_
  refine ge_iadd DX11_refuse_12 ?_
  refine ge_iast DX11_refuse_13 is_363 al_363 (fun m1 => ?_)
  refine ge_iload_n 1 DX11_refuse_14 rfl ?_
  exact ge_iret rfl DX11_refuse_15
abbrev gX11_isWord (K : Kt) (X : Xt) := GE (R := Int32) K rmX11_isWord X cX11_isWord 1 RX11 (some .boolean) (finM K X ιI 0 0)
set_option maxHeartbeats 4000000 in
set_option maxRecDepth 100000 in
theorem okX11_isWord (l : Launch) (X : Xt) (m0 : Mem) (a0 : Int32) : Ct l yX11_isWord cX11_isWord 1 (some .boolean) rmX11_isWord ιI X [.int a0] m0 (fX11_isWord m0 a0) := by
  refine ct_of (own := RX11) (ls := [(0, .int a0)]) (by decide) rfl rfl (Nat.le_of_ble_eq_true rfl) (fun K => ?_)
  show gX11_isWord K X 0 0 0 [(0, .int a0)] [] m0 (fX11_isWord m0 a0)
  delta fX11_isWord
  refine ge_iload_n 0 DX11_isWord_0 rfl ?_
  refine ge_if_lt (tgt := 15) DX11_isWord_1 (by decide) ?_ ?_
  · refine ge_iconst (v := (0 : Int32)) DX11_isWord_15 rfl ?_
    exact ge_zretc rfl rfl DX11_isWord_16
  · refine ge_iload_n 0 DX11_isWord_4 rfl ?_
    refine ge_sipush (v := (4096 : Int32)) DX11_isWord_5 rfl ?_
    refine ge_icmp_ge (tgt := 15) DX11_isWord_8 (by decide) ?_ ?_
    · refine ge_iconst (v := (1 : Int32)) DX11_isWord_11 rfl ?_
      refine ge_goto (tgt := 16) DX11_isWord_12 (by decide) ?_
      exact ge_zretc rfl rfl DX11_isWord_16
    · refine ge_iconst (v := (0 : Int32)) DX11_isWord_15 rfl ?_
      exact ge_zretc rfl rfl DX11_isWord_16
abbrev gX11_isForm (K : Kt) (X : Xt) := GE (R := Int32) K rmX11_isForm X cX11_isForm 2 RX11 (some .boolean) (finM K X ιI 0 0)
set_option maxHeartbeats 4000000 in
set_option maxRecDepth 100000 in
theorem okX11_isForm (l : Launch) (X : Xt) (m0 : Mem) (a1 : Int32) : Ct l yX11_isForm cX11_isForm 2 (some .boolean) rmX11_isForm ιI X [.ref (xad X 362), .int a1] m0 (fX11_isForm m0 a1) := by
  refine ct_of (own := RX11) (ls := [(0, .ref (xad X 362)), (1, .int a1)]) (by decide) rfl rfl (Nat.le_of_ble_eq_true rfl) (fun K => ?_)
  show gX11_isForm K X 0 0 0 [(0, .ref (xad X 362)), (1, .int a1)] [] m0 (fX11_isForm m0 a1)
  delta fX11_isForm
  refine ge_iload_n 1 DX11_isForm_0 rfl ?_
  refine ge_if_lt (tgt := 16) DX11_isForm_1 (by decide) ?_ ?_
  · refine ge_iconst (v := (0 : Int32)) DX11_isForm_16 rfl ?_
    exact ge_zretc rfl rfl DX11_isForm_17
  · refine ge_iload_n 1 DX11_isForm_4 rfl ?_
    refine ge_aload_n 0 DX11_isForm_5 rfl ?_
    refine ge_getI DX11_isForm_6 fl_X11_76 is_362 (by decide) rfl ?_
    refine ge_icmp_ge (tgt := 16) DX11_isForm_9 (by decide) ?_ ?_
    · refine ge_iconst (v := (1 : Int32)) DX11_isForm_12 rfl ?_
      refine ge_goto (tgt := 17) DX11_isForm_13 (by decide) ?_
      exact ge_zretc rfl rfl DX11_isForm_17
    · refine ge_iconst (v := (0 : Int32)) DX11_isForm_16 rfl ?_
      exact ge_zretc rfl rfl DX11_isForm_17
abbrev gX11_isCell (K : Kt) (X : Xt) := GE (R := Int32) K rmX11_isCell X cX11_isCell 1 RX11 (some .boolean) (finM K X ιI 0 0)
set_option maxHeartbeats 4000000 in
set_option maxRecDepth 100000 in
theorem okX11_isCell (l : Launch) (X : Xt) (m0 : Mem) (a0 : Int32) : Ct l yX11_isCell cX11_isCell 1 (some .boolean) rmX11_isCell ιI X [.int a0] m0 (fX11_isCell m0 a0) := by
  refine ct_of (own := RX11) (ls := [(0, .int a0)]) (by decide) rfl rfl (Nat.le_of_ble_eq_true rfl) (fun K => ?_)
  show gX11_isCell K X 0 0 0 [(0, .int a0)] [] m0 (fX11_isCell m0 a0)
  delta fX11_isCell
  refine ge_iload_n 0 DX11_isCell_0 rfl ?_
  refine ge_if_lt (tgt := 14) DX11_isCell_1 (by decide) ?_ ?_
  · refine ge_iconst (v := (0 : Int32)) DX11_isCell_14 rfl ?_
    exact ge_zretc rfl rfl DX11_isCell_15
  · refine ge_iload_n 0 DX11_isCell_4 rfl ?_
    refine ge_bipush (v := (32 : Int32)) DX11_isCell_5 rfl ?_
    refine ge_icmp_ge (tgt := 14) DX11_isCell_7 (by decide) ?_ ?_
    · refine ge_iconst (v := (1 : Int32)) DX11_isCell_10 rfl ?_
      refine ge_goto (tgt := 15) DX11_isCell_11 (by decide) ?_
      exact ge_zretc rfl rfl DX11_isCell_15
    · refine ge_iconst (v := (0 : Int32)) DX11_isCell_14 rfl ?_
      exact ge_zretc rfl rfl DX11_isCell_15
abbrev gX11_has (K : Kt) (X : Xt) := GE (R := Int32) K rmX11_has X cX11_has 2 RX11 (some .boolean) (finM K X ιI 0 0)
set_option maxHeartbeats 4000000 in
set_option maxRecDepth 100000 in
theorem okX11_has (l : Launch) (X : Xt) (m0 : Mem) (a0 : Int32) (a1 : Int32) : Ct l yX11_has cX11_has 2 (some .boolean) rmX11_has ιI X [.int a0, .int a1] m0 (fX11_has m0 a0 a1) := by
  refine ct_of (own := RX11) (ls := [(0, .int a0), (1, .int a1)]) (by decide) rfl rfl (Nat.le_of_ble_eq_true rfl) (fun K => ?_)
  show gX11_has K X 0 0 0 [(0, .int a0), (1, .int a1)] [] m0 (fX11_has m0 a0 a1)
  delta fX11_has
  refine ge_iload_n 0 DX11_has_0 rfl ?_
  refine ge_iload_n 1 DX11_has_1 rfl ?_
  refine ge_iushr DX11_has_2 ?_
  refine ge_iconst (v := (1 : Int32)) DX11_has_3 rfl ?_
  refine ge_iand DX11_has_4 ?_
  refine ge_iconst (v := (1 : Int32)) DX11_has_5 rfl ?_
  refine ge_icmp_ne (tgt := 13) DX11_has_6 (by decide) ?_ ?_
  · refine ge_iconst (v := (1 : Int32)) DX11_has_9 rfl ?_
    refine ge_goto (tgt := 14) DX11_has_10 (by decide) ?_
    exact ge_zretc rfl rfl DX11_has_14
  · refine ge_iconst (v := (0 : Int32)) DX11_has_13 rfl ?_
    exact ge_zretc rfl rfl DX11_has_14
abbrev gX11_size (K : Kt) (X : Xt) := GE (R := Int32) K rmX11_size X cX11_size 3 RX11 (some .int) (finM K X ιI 0 0)
set_option maxHeartbeats 4000000 in
set_option maxRecDepth 100000 in
theorem lX11_size_L4 (K : Kt) (X : Xt) {k24 : Int32 → Option (Int32 × Mem)} (m1 : Mem) (y2 : Int32)  (hk24 : ∀ (x5 : Int32), gX11_size K X 0 0 24 [(1, .int x5)] [] m1 (k24 x5)) :
    ∀ (n : Nat) (x3 : Int32) (x4 : Int32), gX11_size K X 0 0 4 [(0, .int y2), (1, .int x3), (2, .int x4)] [] m1 (fX11_size_L4 k24 m1 y2 n x3 x4) := by
  intro n
  induction n with
  | zero => intro x3 x4; exact ge_none
  | succ n ih =>
    intro x3 x4
    show gX11_size K X 0 0 4 [(0, .int y2), (1, .int x3), (2, .int x4)] [] m1 (fX11_size_L4_b k24 m1 y2 (fX11_size_L4 k24 m1 y2 n) x3 x4)
    delta fX11_size_L4_b
    refine ge_iload_n 2 DX11_size_4 rfl ?_
    refine ge_bipush (v := (32 : Int32)) DX11_size_5 rfl ?_
    refine ge_icmp_ge (tgt := 24) DX11_size_7 (by decide) ?_ ?_
    · refine ge_iload_n 1 DX11_size_10 rfl ?_
      refine ge_iload_n 0 DX11_size_11 rfl ?_
      refine ge_iload_n 2 DX11_size_12 rfl ?_
      refine ge_iushr DX11_size_13 ?_
      refine ge_iconst (v := (1 : Int32)) DX11_size_14 rfl ?_
      refine ge_iand DX11_size_15 ?_
      refine ge_iadd DX11_size_16 ?_
      refine ge_topi (fun x7 => ?_)
      refine ge_istore_n (ls' := [(1, .int x7), (0, .int y2), (2, .int x4)]) DX11_size_17 (by decide) rfl ?_
      refine ge_iinc 2 (v := (x4 + (1 : Int32))) (ls' := [(2, .int (x4 + (1 : Int32))), (1, .int x7), (0, .int y2)]) DX11_size_18 rfl rfl (by decide) rfl ?_
      refine ge_goto (tgt := 4) DX11_size_21 (by decide) ?_
      refine ge_sub [2, 1, 0] rfl ?_
      exact ih x7 (x4 + (1 : Int32))
    · refine ge_sub [1] rfl ?_
      exact hk24 x3
set_option maxHeartbeats 4000000 in
set_option maxRecDepth 100000 in
theorem okX11_size (l : Launch) (X : Xt) (m0 : Mem) (a0 : Int32) : Ct l yX11_size cX11_size 3 (some .int) rmX11_size ιI X [.int a0] m0 (fX11_size m0 a0) := by
  refine ct_of (own := RX11) (ls := [(0, .int a0)]) (by decide) rfl rfl (Nat.le_of_ble_eq_true rfl) (fun K => ?_)
  show gX11_size K X 0 0 0 [(0, .int a0)] [] m0 (fX11_size m0 a0)
  delta fX11_size
  refine ge_iconst (v := (0 : Int32)) DX11_size_0 rfl ?_
  refine ge_istore_n (ls' := [(1, .int (0 : Int32)), (0, .int a0)]) DX11_size_1 (by decide) rfl ?_
  refine ge_iconst (v := (0 : Int32)) DX11_size_2 rfl ?_
  refine ge_istore_n (ls' := [(2, .int (0 : Int32)), (1, .int (0 : Int32)), (0, .int a0)]) DX11_size_3 (by decide) rfl ?_
  refine ge_sub [2, 1, 0] rfl ?_
  refine lX11_size_L4 K X m0 a0 (fun x6 => ?_) 5000 (0 : Int32) (0 : Int32)
  · refine ge_iload_n 0 DX11_size_24 rfl ?_
    exact ge_iret rfl DX11_size_25
abbrev gX11_signAt (K : Kt) (X : Xt) := GE (R := Int32) K rmX11_signAt X cX11_signAt 3 RX11 (some .int) (finM K X ιI 0 0)
set_option maxHeartbeats 4000000 in
set_option maxRecDepth 100000 in
theorem okX11_signAt (l : Launch) (X : Xt) (m0 : Mem) (a1 : Int32) (a2 : Int32) : Ct l yX11_signAt cX11_signAt 3 (some .int) rmX11_signAt ιI X [.ref (xad X 362), .int a1, .int a2] m0 (fX11_signAt m0 a1 a2) := by
  refine ct_of (own := RX11) (ls := [(0, .ref (xad X 362)), (1, .int a1), (2, .int a2)]) (by decide) rfl rfl (Nat.le_of_ble_eq_true rfl) (fun K => ?_)
  show gX11_signAt K X 0 0 0 [(0, .ref (xad X 362)), (1, .int a1), (2, .int a2)] [] m0 (fX11_signAt m0 a1 a2)
  delta fX11_signAt
  refine ge_aload_n 0 DX11_signAt_0 rfl ?_
  refine ge_getR (i := 366) DX11_signAt_1 fl_X11_19 is_362 (by decide) rfl ?_
  refine ge_bipush (v := (12 : Int32)) DX11_signAt_4 rfl ?_
  refine ge_iload_n 1 DX11_signAt_6 rfl ?_
  refine ge_imul DX11_signAt_7 ?_
  refine ge_bipush (v := (11 : Int32)) DX11_signAt_8 rfl ?_
  refine ge_iadd DX11_signAt_10 ?_
  refine ge_iload_n 2 DX11_signAt_11 rfl ?_
  refine ge_isub DX11_signAt_12 ?_
  refine ge_iald DX11_signAt_13 is_366 al_366 ?_
  exact ge_iret rfl DX11_signAt_14
abbrev gX11_maskOf (K : Kt) (X : Xt) := GE (R := Int32) K rmX11_maskOf X cX11_maskOf 2 RX11 (some .int) (finM K X ιI 0 0)
set_option maxHeartbeats 4000000 in
set_option maxRecDepth 100000 in
theorem okX11_maskOf (l : Launch) (X : Xt) (m0 : Mem) (a1 : Int32) : Ct l yX11_maskOf cX11_maskOf 2 (some .int) rmX11_maskOf ιI X [.ref (xad X 362), .int a1] m0 (fX11_maskOf m0 a1) := by
  refine ct_of (own := RX11) (ls := [(0, .ref (xad X 362)), (1, .int a1)]) (by decide) rfl rfl (Nat.le_of_ble_eq_true rfl) (fun K => ?_)
  show gX11_maskOf K X 0 0 0 [(0, .ref (xad X 362)), (1, .int a1)] [] m0 (fX11_maskOf m0 a1)
  delta fX11_maskOf
  refine ge_aload_n 0 DX11_maskOf_0 rfl ?_
  refine ge_getR (i := 369) DX11_maskOf_1 fl_X11_28 is_362 (by decide) rfl ?_
  refine ge_iload_n 1 DX11_maskOf_4 rfl ?_
  refine ge_iald DX11_maskOf_5 is_369 al_369 ?_
  exact ge_iret rfl DX11_maskOf_6
abbrev gX11_valueOf (K : Kt) (X : Xt) := GE (R := Int32) K rmX11_valueOf X cX11_valueOf 2 RX11 (some .int) (finM K X ιI 0 0)
set_option maxHeartbeats 4000000 in
set_option maxRecDepth 100000 in
theorem okX11_valueOf (l : Launch) (X : Xt) (m0 : Mem) (a1 : Int32) : Ct l yX11_valueOf cX11_valueOf 2 (some .int) rmX11_valueOf ιI X [.ref (xad X 362), .int a1] m0 (fX11_valueOf m0 a1) := by
  refine ct_of (own := RX11) (ls := [(0, .ref (xad X 362)), (1, .int a1)]) (by decide) rfl rfl (Nat.le_of_ble_eq_true rfl) (fun K => ?_)
  show gX11_valueOf K X 0 0 0 [(0, .ref (xad X 362)), (1, .int a1)] [] m0 (fX11_valueOf m0 a1)
  delta fX11_valueOf
  refine ge_aload_n 0 DX11_valueOf_0 rfl ?_
  refine ge_getR (i := 370) DX11_valueOf_1 fl_X11_31 is_362 (by decide) rfl ?_
  refine ge_iload_n 1 DX11_valueOf_4 rfl ?_
  refine ge_iald DX11_valueOf_5 is_370 al_370 ?_
  exact ge_iret rfl DX11_valueOf_6
abbrev gX11_fixedIn (K : Kt) (X : Xt) := GE (R := Int32) K rmX11_fixedIn X cX11_fixedIn 4 RX11 (some .int) (finM K X ιI 0 0)
set_option maxHeartbeats 4000000 in
set_option maxRecDepth 100000 in
theorem lX11_fixedIn_L4 (K : Kt) (X : Xt) {k48 : Mem → Int32 → Option (Int32 × Mem)} (y2 : Int32)  (hk48 : ∀ (m5 : Mem) (x6 : Int32), gX11_fixedIn K X 0 0 48 [(2, .int x6)] [] m5 (k48 m5 x6)) :
    ∀ (n : Nat) (m1 : Mem) (x3 : Int32) (x4 : Int32), gX11_fixedIn K X 0 0 4 [(0, .ref (xad X 362)), (1, .int y2), (2, .int x3), (3, .int x4)] [] m1 (fX11_fixedIn_L4 k48 y2 n m1 x3 x4) := by
  intro n
  induction n with
  | zero => intro m1 x3 x4; exact ge_none
  | succ n ih =>
    intro m1 x3 x4
    show gX11_fixedIn K X 0 0 4 [(0, .ref (xad X 362)), (1, .int y2), (2, .int x3), (3, .int x4)] [] m1 (fX11_fixedIn_L4_b k48 y2 (fX11_fixedIn_L4 k48 y2 n) m1 x3 x4)
    delta fX11_fixedIn_L4_b
    refine ge_iload_n 3 DX11_fixedIn_4 rfl ?_
    refine ge_bipush (v := (12 : Int32)) DX11_fixedIn_5 rfl ?_
    refine ge_icmp_ge (tgt := 48) DX11_fixedIn_7 (by decide) ?_ ?_
    · refine ge_iload_n 2 DX11_fixedIn_10 rfl ?_
      refine ge_aload_n 0 DX11_fixedIn_11 rfl ?_
      refine ge_iload_n 1 DX11_fixedIn_12 rfl ?_
      refine ge_iload_n 3 DX11_fixedIn_13 rfl ?_
      refine ge_callVi0 (st := [.int x3]) cm_X11_80 DX11_fixedIn_14 is_362 rfl (okX11_signAt (kl K) X m1 y2 x4) rfl rfl (Nat.le_of_ble_eq_true rfl) (by decide) ⟨rfl, rfl⟩ ⟨Nat.zero_le _, Nat.zero_le _⟩ (fun r10 m9 => ?_)
      refine ge_bipush (v := (48 : Int32)) DX11_fixedIn_17 rfl ?_
      refine ge_jn (P := fun k => ∀ (m11 : Mem) (v12 : Int32), gX11_fixedIn K X 0 0 40 [(0, .ref (xad X 362)), (1, .int y2), (3, .int x4)] [.int v12, .int x3] m11 (k m11 v12)) (fun m11 v12 => ?_) (fun j40 hj40 => ?_)
      · refine ge_ior DX11_fixedIn_40 ?_
        refine ge_topi (fun x13 => ?_)
        refine ge_istore_n (ls' := [(2, .int x13), (0, .ref (xad X 362)), (1, .int y2), (3, .int x4)]) DX11_fixedIn_41 (by decide) rfl ?_
        refine ge_iinc 3 (v := (x4 + (1 : Int32))) (ls' := [(3, .int (x4 + (1 : Int32))), (2, .int x13), (0, .ref (xad X 362)), (1, .int y2)]) DX11_fixedIn_42 rfl rfl (by decide) rfl ?_
        refine ge_goto (tgt := 4) DX11_fixedIn_45 (by decide) ?_
        refine ge_sub [2, 3, 1, 0] rfl ?_
        exact ih m11 x13 (x4 + (1 : Int32))
      refine ge_jn (P := fun k => ∀ (m14 : Mem), gX11_fixedIn K X 0 0 33 [(0, .ref (xad X 362)), (1, .int y2), (3, .int x4)] [.int x3] m14 (k m14)) (fun m14 => ?_) (fun j33 hj33 => ?_)
      · refine ge_iconst (v := (1 : Int32)) DX11_fixedIn_33 rfl ?_
        refine ge_iload_n 2 DX11_fixedIn_34 rfl ?_
        refine ge_ishl DX11_fixedIn_35 ?_
        refine ge_goto (tgt := 40) DX11_fixedIn_36 (by decide) ?_
        exact hj40 m14 ((1 : Int32) <<< (x4 &&& 31))
      refine ge_icmp_eq (tgt := 33) DX11_fixedIn_19 (by decide) ?_ ?_
      · refine ge_sub [0, 1, 3] rfl ?_
        exact hj33 m9
      · refine ge_aload_n 0 DX11_fixedIn_22 rfl ?_
        refine ge_iload_n 1 DX11_fixedIn_23 rfl ?_
        refine ge_iload_n 3 DX11_fixedIn_24 rfl ?_
        refine ge_callVi0 (st := [.int x3]) cm_X11_80 DX11_fixedIn_25 is_362 rfl (okX11_signAt (kl K) X m9 y2 x4) rfl rfl (Nat.le_of_ble_eq_true rfl) (by decide) ⟨rfl, rfl⟩ ⟨Nat.zero_le _, Nat.zero_le _⟩ (fun r16 m15 => ?_)
        refine ge_bipush (v := (49 : Int32)) DX11_fixedIn_28 rfl ?_
        refine ge_icmp_ne (tgt := 39) DX11_fixedIn_30 (by decide) ?_ ?_
        · refine ge_sub [0, 1, 3] rfl ?_
          exact hj33 m15
        · refine ge_iconst (v := (0 : Int32)) DX11_fixedIn_39 rfl ?_
          refine ge_sub [0, 1, 3] rfl ?_
          exact hj40 m15 (0 : Int32)
    · refine ge_sub [2] rfl ?_
      exact hk48 m1 x3
set_option maxHeartbeats 4000000 in
set_option maxRecDepth 100000 in
theorem okX11_fixedIn (l : Launch) (X : Xt) (m0 : Mem) (a1 : Int32) : Ct l yX11_fixedIn cX11_fixedIn 4 (some .int) rmX11_fixedIn ιI X [.ref (xad X 362), .int a1] m0 (fX11_fixedIn m0 a1) := by
  refine ct_of (own := RX11) (ls := [(0, .ref (xad X 362)), (1, .int a1)]) (by decide) rfl rfl (Nat.le_of_ble_eq_true rfl) (fun K => ?_)
  show gX11_fixedIn K X 0 0 0 [(0, .ref (xad X 362)), (1, .int a1)] [] m0 (fX11_fixedIn m0 a1)
  delta fX11_fixedIn
  refine ge_iconst (v := (0 : Int32)) DX11_fixedIn_0 rfl ?_
  refine ge_istore_n (ls' := [(2, .int (0 : Int32)), (0, .ref (xad X 362)), (1, .int a1)]) DX11_fixedIn_1 (by decide) rfl ?_
  refine ge_iconst (v := (0 : Int32)) DX11_fixedIn_2 rfl ?_
  refine ge_istore_n (ls' := [(3, .int (0 : Int32)), (2, .int (0 : Int32)), (0, .ref (xad X 362)), (1, .int a1)]) DX11_fixedIn_3 (by decide) rfl ?_
  refine ge_sub [2, 3, 1, 0] rfl ?_
  refine lX11_fixedIn_L4 K X a1 (fun m7 x8 => ?_) 5000 m0 (0 : Int32) (0 : Int32)
  · refine ge_iload_n 0 DX11_fixedIn_48 rfl ?_
    exact ge_iret rfl DX11_fixedIn_49
abbrev gX11_onesIn (K : Kt) (X : Xt) := GE (R := Int32) K rmX11_onesIn X cX11_onesIn 4 RX11 (some .int) (finM K X ιI 0 0)
set_option maxHeartbeats 4000000 in
set_option maxRecDepth 100000 in
theorem lX11_onesIn_L4 (K : Kt) (X : Xt) {k37 : Mem → Int32 → Option (Int32 × Mem)} (y2 : Int32)  (hk37 : ∀ (m5 : Mem) (x6 : Int32), gX11_onesIn K X 0 0 37 [(2, .int x6)] [] m5 (k37 m5 x6)) :
    ∀ (n : Nat) (m1 : Mem) (x3 : Int32) (x4 : Int32), gX11_onesIn K X 0 0 4 [(0, .ref (xad X 362)), (1, .int y2), (2, .int x3), (3, .int x4)] [] m1 (fX11_onesIn_L4 k37 y2 n m1 x3 x4) := by
  intro n
  induction n with
  | zero => intro m1 x3 x4; exact ge_none
  | succ n ih =>
    intro m1 x3 x4
    show gX11_onesIn K X 0 0 4 [(0, .ref (xad X 362)), (1, .int y2), (2, .int x3), (3, .int x4)] [] m1 (fX11_onesIn_L4_b k37 y2 (fX11_onesIn_L4 k37 y2 n) m1 x3 x4)
    delta fX11_onesIn_L4_b
    refine ge_iload_n 3 DX11_onesIn_4 rfl ?_
    refine ge_bipush (v := (12 : Int32)) DX11_onesIn_5 rfl ?_
    refine ge_icmp_ge (tgt := 37) DX11_onesIn_7 (by decide) ?_ ?_
    · refine ge_iload_n 2 DX11_onesIn_10 rfl ?_
      refine ge_aload_n 0 DX11_onesIn_11 rfl ?_
      refine ge_iload_n 1 DX11_onesIn_12 rfl ?_
      refine ge_iload_n 3 DX11_onesIn_13 rfl ?_
      refine ge_callVi0 (st := [.int x3]) cm_X11_80 DX11_onesIn_14 is_362 rfl (okX11_signAt (kl K) X m1 y2 x4) rfl rfl (Nat.le_of_ble_eq_true rfl) (by decide) ⟨rfl, rfl⟩ ⟨Nat.zero_le _, Nat.zero_le _⟩ (fun r10 m9 => ?_)
      refine ge_bipush (v := (49 : Int32)) DX11_onesIn_17 rfl ?_
      refine ge_jn (P := fun k => ∀ (v11 : Int32), gX11_onesIn K X 0 0 29 [(0, .ref (xad X 362)), (1, .int y2), (3, .int x4)] [.int v11, .int x3] m9 (k v11)) (fun v11 => ?_) (fun j29 hj29 => ?_)
      · refine ge_ior DX11_onesIn_29 ?_
        refine ge_topi (fun x12 => ?_)
        refine ge_istore_n (ls' := [(2, .int x12), (0, .ref (xad X 362)), (1, .int y2), (3, .int x4)]) DX11_onesIn_30 (by decide) rfl ?_
        refine ge_iinc 3 (v := (x4 + (1 : Int32))) (ls' := [(3, .int (x4 + (1 : Int32))), (2, .int x12), (0, .ref (xad X 362)), (1, .int y2)]) DX11_onesIn_31 rfl rfl (by decide) rfl ?_
        refine ge_goto (tgt := 4) DX11_onesIn_34 (by decide) ?_
        refine ge_sub [2, 3, 1, 0] rfl ?_
        exact ih m9 x12 (x4 + (1 : Int32))
      refine ge_icmp_ne (tgt := 28) DX11_onesIn_19 (by decide) ?_ ?_
      · refine ge_iconst (v := (1 : Int32)) DX11_onesIn_22 rfl ?_
        refine ge_iload_n 3 DX11_onesIn_23 rfl ?_
        refine ge_ishl DX11_onesIn_24 ?_
        refine ge_goto (tgt := 29) DX11_onesIn_25 (by decide) ?_
        refine ge_sub [0, 1, 3] rfl ?_
        exact hj29 ((1 : Int32) <<< (x4 &&& 31))
      · refine ge_iconst (v := (0 : Int32)) DX11_onesIn_28 rfl ?_
        refine ge_sub [0, 1, 3] rfl ?_
        exact hj29 (0 : Int32)
    · refine ge_sub [2] rfl ?_
      exact hk37 m1 x3
set_option maxHeartbeats 4000000 in
set_option maxRecDepth 100000 in
theorem okX11_onesIn (l : Launch) (X : Xt) (m0 : Mem) (a1 : Int32) : Ct l yX11_onesIn cX11_onesIn 4 (some .int) rmX11_onesIn ιI X [.ref (xad X 362), .int a1] m0 (fX11_onesIn m0 a1) := by
  refine ct_of (own := RX11) (ls := [(0, .ref (xad X 362)), (1, .int a1)]) (by decide) rfl rfl (Nat.le_of_ble_eq_true rfl) (fun K => ?_)
  show gX11_onesIn K X 0 0 0 [(0, .ref (xad X 362)), (1, .int a1)] [] m0 (fX11_onesIn m0 a1)
  delta fX11_onesIn
  refine ge_iconst (v := (0 : Int32)) DX11_onesIn_0 rfl ?_
  refine ge_istore_n (ls' := [(2, .int (0 : Int32)), (0, .ref (xad X 362)), (1, .int a1)]) DX11_onesIn_1 (by decide) rfl ?_
  refine ge_iconst (v := (0 : Int32)) DX11_onesIn_2 rfl ?_
  refine ge_istore_n (ls' := [(3, .int (0 : Int32)), (2, .int (0 : Int32)), (0, .ref (xad X 362)), (1, .int a1)]) DX11_onesIn_3 (by decide) rfl ?_
  refine ge_sub [2, 3, 1, 0] rfl ?_
  refine lX11_onesIn_L4 K X a1 (fun m7 x8 => ?_) 5000 m0 (0 : Int32) (0 : Int32)
  · refine ge_iload_n 0 DX11_onesIn_37 rfl ?_
    exact ge_iret rfl DX11_onesIn_38
abbrev gX11_bitsOf (K : Kt) (X : Xt) := GE (R := Int32) K rmX11_bitsOf X cX11_bitsOf 5 RX11 (some .int) (finM K X ιI 0 0)
set_option maxHeartbeats 4000000 in
set_option maxRecDepth 100000 in
theorem lX11_bitsOf_L5 (K : Kt) (X : Xt) {k44 : Mem → Int32 → Option (Int32 × Mem)} (y2 : Int32) (y3 : Int32)  (hk44 : ∀ (m6 : Mem) (x7 : Int32), gX11_bitsOf K X 0 0 44 [(3, .int x7)] [] m6 (k44 m6 x7)) :
    ∀ (n : Nat) (m1 : Mem) (x4 : Int32) (x5 : Int32), gX11_bitsOf K X 0 0 5 [(0, .ref (xad X 362)), (1, .int y2), (2, .int y3), (3, .int x4), (4, .int x5)] [] m1 (fX11_bitsOf_L5 k44 y2 y3 n m1 x4 x5) := by
  intro n
  induction n with
  | zero => intro m1 x4 x5; exact ge_none
  | succ n ih =>
    intro m1 x4 x5
    show gX11_bitsOf K X 0 0 5 [(0, .ref (xad X 362)), (1, .int y2), (2, .int y3), (3, .int x4), (4, .int x5)] [] m1 (fX11_bitsOf_L5_b k44 y2 y3 (fX11_bitsOf_L5 k44 y2 y3 n) m1 x4 x5)
    delta fX11_bitsOf_L5_b
    refine ge_iload 4 DX11_bitsOf_5 rfl ?_
    refine ge_bipush (v := (12 : Int32)) DX11_bitsOf_7 rfl ?_
    refine ge_icmp_ge (tgt := 44) DX11_bitsOf_9 (by decide) ?_ ?_
    · refine ge_iload_n 3 DX11_bitsOf_12 rfl ?_
      refine ge_aload_n 0 DX11_bitsOf_13 rfl ?_
      refine ge_iload_n 1 DX11_bitsOf_14 rfl ?_
      refine ge_iload 4 DX11_bitsOf_15 rfl ?_
      refine ge_callVi0 (st := [.int x4]) cm_X11_80 DX11_bitsOf_17 is_362 rfl (okX11_signAt (kl K) X m1 y2 x5) rfl rfl (Nat.le_of_ble_eq_true rfl) (by decide) ⟨rfl, rfl⟩ ⟨Nat.zero_le _, Nat.zero_le _⟩ (fun r11 m10 => ?_)
      refine ge_gets DX11_bitsOf_20 sl_X11_84 ?_
      refine ge_iload_n 2 DX11_bitsOf_23 rfl ?_
      refine ge_sald (j := 3) DX11_bitsOf_24 (by decide) rfl rfl ?_
      refine ge_jn (P := fun k => ∀ (v12 : Int32), gX11_bitsOf K X 0 0 36 [(0, .ref (xad X 362)), (1, .int y2), (2, .int y3), (4, .int x5)] [.int v12, .int x4] m10 (k v12)) (fun v12 => ?_) (fun j36 hj36 => ?_)
      · refine ge_ior DX11_bitsOf_36 ?_
        refine ge_topi (fun x13 => ?_)
        refine ge_istore_n (ls' := [(3, .int x13), (0, .ref (xad X 362)), (1, .int y2), (2, .int y3), (4, .int x5)]) DX11_bitsOf_37 (by decide) rfl ?_
        refine ge_iinc 4 (v := (x5 + (1 : Int32))) (ls' := [(4, .int (x5 + (1 : Int32))), (3, .int x13), (0, .ref (xad X 362)), (1, .int y2), (2, .int y3)]) DX11_bitsOf_38 rfl rfl (by decide) rfl ?_
        refine ge_goto (tgt := 5) DX11_bitsOf_41 (by decide) ?_
        refine ge_sub [2, 3, 4, 1, 0] rfl ?_
        exact ih m10 x13 (x5 + (1 : Int32))
      refine ge_icmp_ne (tgt := 35) DX11_bitsOf_25 (by decide) ?_ ?_
      · refine ge_iconst (v := (1 : Int32)) DX11_bitsOf_28 rfl ?_
        refine ge_iload 4 DX11_bitsOf_29 rfl ?_
        refine ge_ishl DX11_bitsOf_31 ?_
        refine ge_goto (tgt := 36) DX11_bitsOf_32 (by decide) ?_
        refine ge_sub [0, 1, 2, 4] rfl ?_
        exact hj36 ((1 : Int32) <<< (x5 &&& 31))
      · refine ge_iconst (v := (0 : Int32)) DX11_bitsOf_35 rfl ?_
        refine ge_sub [0, 1, 2, 4] rfl ?_
        exact hj36 (0 : Int32)
    · refine ge_sub [3] rfl ?_
      exact hk44 m1 x4
set_option maxHeartbeats 4000000 in
set_option maxRecDepth 100000 in
theorem okX11_bitsOf (l : Launch) (X : Xt) (m0 : Mem) (a1 : Int32) (a2 : Int32) : Ct l yX11_bitsOf cX11_bitsOf 5 (some .int) rmX11_bitsOf ιI X [.ref (xad X 362), .int a1, .int a2] m0 (fX11_bitsOf m0 a1 a2) := by
  refine ct_of (own := RX11) (ls := [(0, .ref (xad X 362)), (1, .int a1), (2, .int a2)]) (by decide) rfl rfl (Nat.le_of_ble_eq_true rfl) (fun K => ?_)
  show gX11_bitsOf K X 0 0 0 [(0, .ref (xad X 362)), (1, .int a1), (2, .int a2)] [] m0 (fX11_bitsOf m0 a1 a2)
  delta fX11_bitsOf
  refine ge_iconst (v := (0 : Int32)) DX11_bitsOf_0 rfl ?_
  refine ge_istore_n (ls' := [(3, .int (0 : Int32)), (0, .ref (xad X 362)), (1, .int a1), (2, .int a2)]) DX11_bitsOf_1 (by decide) rfl ?_
  refine ge_iconst (v := (0 : Int32)) DX11_bitsOf_2 rfl ?_
  refine ge_istore (ls' := [(4, .int (0 : Int32)), (3, .int (0 : Int32)), (0, .ref (xad X 362)), (1, .int a1), (2, .int a2)]) DX11_bitsOf_3 (by decide) rfl ?_
  refine ge_sub [2, 3, 4, 1, 0] rfl ?_
  refine lX11_bitsOf_L5 K X a1 a2 (fun m8 x9 => ?_) 5000 m0 (0 : Int32) (0 : Int32)
  · refine ge_iload_n 0 DX11_bitsOf_44 rfl ?_
    exact ge_iret rfl DX11_bitsOf_45
abbrev gX11_isField (K : Kt) (X : Xt) := GE (R := Int32) K rmX11_isField X cX11_isField 3 RX11 (some .boolean) (finM K X ιI 0 0)
set_option maxHeartbeats 4000000 in
set_option maxRecDepth 100000 in
theorem okX11_isField (l : Launch) (X : Xt) (m0 : Mem) (a1 : Int32) (a2 : Int32) : Ct l yX11_isField cX11_isField 3 (some .boolean) rmX11_isField ιI X [.ref (xad X 362), .int a1, .int a2] m0 (fX11_isField m0 a1 a2) := by
  refine ct_of (own := RX11) (ls := [(0, .ref (xad X 362)), (1, .int a1), (2, .int a2)]) (by decide) rfl rfl (Nat.le_of_ble_eq_true rfl) (fun K => ?_)
  show gX11_isField K X 0 0 0 [(0, .ref (xad X 362)), (1, .int a1), (2, .int a2)] [] m0 (fX11_isField m0 a1 a2)
  delta fX11_isField
  refine ge_iload_n 2 DX11_isField_0 rfl ?_
  refine ge_i2l DX11_isField_1 ?_
  refine ge_lconst (v := (0 : Int64)) DX11_isField_2 rfl ?_
  refine ge_ldc2 (v := (7 : Int64)) kw_X11_87 DX11_isField_3 ?_
  refine ge_callSi0 (st := []) cm_X11_89 DX11_isField_6 (okX11_isIn (kl K) X m0 ((a2).toInt64) (0 : Int64) (7 : Int64)) rfl rfl (Nat.le_of_ble_eq_true rfl) (by decide) ⟨rfl, rfl⟩ ⟨Nat.zero_le _, Nat.zero_le _⟩ (fun r2 m1 => ?_)
  refine ge_if_eq (tgt := 25) DX11_isField_9 (by decide) ?_ ?_
  · refine ge_iconst (v := (0 : Int32)) DX11_isField_25 rfl ?_
    exact ge_zretc rfl rfl DX11_isField_26
  · refine ge_aload_n 0 DX11_isField_12 rfl ?_
    refine ge_iload_n 1 DX11_isField_13 rfl ?_
    refine ge_iload_n 2 DX11_isField_14 rfl ?_
    refine ge_callVi0 (st := []) cm_X11_93 DX11_isField_15 is_362 rfl (okX11_bitsOf (kl K) X m1 a1 a2) rfl rfl (Nat.le_of_ble_eq_true rfl) (by decide) ⟨rfl, rfl⟩ ⟨Nat.zero_le _, Nat.zero_le _⟩ (fun r4 m3 => ?_)
    refine ge_if_eq (tgt := 25) DX11_isField_18 (by decide) ?_ ?_
    · refine ge_iconst (v := (0 : Int32)) DX11_isField_25 rfl ?_
      exact ge_zretc rfl rfl DX11_isField_26
    · refine ge_iconst (v := (1 : Int32)) DX11_isField_21 rfl ?_
      refine ge_goto (tgt := 26) DX11_isField_22 (by decide) ?_
      exact ge_zretc rfl rfl DX11_isField_26
abbrev gX11_letterOf (K : Kt) (X : Xt) := GE (R := Int32) K rmX11_letterOf X cX11_letterOf 3 RX11 (some .int) (finM K X ιI 0 0)
set_option maxHeartbeats 4000000 in
set_option maxRecDepth 100000 in
theorem lX11_letterOf_L4 (K : Kt) (X : Xt) {k31 : Int32 → Option (Int32 × Mem)} (m1 : Mem) (y2 : Int32)  (hk31 : ∀ (x5 : Int32), gX11_letterOf K X 0 0 31 [(1, .int x5)] [] m1 (k31 x5)) :
    ∀ (n : Nat) (x3 : Int32) (x4 : Int32), gX11_letterOf K X 0 0 4 [(0, .int y2), (1, .int x3), (2, .int x4)] [] m1 (fX11_letterOf_L4 k31 m1 y2 n x3 x4) := by
  intro n
  induction n with
  | zero => intro x3 x4; exact ge_none
  | succ n ih =>
    intro x3 x4
    show gX11_letterOf K X 0 0 4 [(0, .int y2), (1, .int x3), (2, .int x4)] [] m1 (fX11_letterOf_L4_b k31 m1 y2 (fX11_letterOf_L4 k31 m1 y2 n) x3 x4)
    delta fX11_letterOf_L4_b
    refine ge_iload_n 2 DX11_letterOf_4 rfl ?_
    refine ge_bipush (v := (8 : Int32)) DX11_letterOf_5 rfl ?_
    refine ge_icmp_ge (tgt := 31) DX11_letterOf_7 (by decide) ?_ ?_
    · refine ge_gets DX11_letterOf_10 sl_X11_84 ?_
      refine ge_iload_n 2 DX11_letterOf_13 rfl ?_
      refine ge_sald (j := 3) DX11_letterOf_14 (by decide) rfl rfl ?_
      refine ge_iload_n 0 DX11_letterOf_15 rfl ?_
      refine ge_jn (P := fun k => ∀ (v7 : Int32), gX11_letterOf K X 0 0 24 [(0, .int y2), (2, .int x4)] [.int v7] m1 (k v7)) (fun v7 => ?_) (fun j24 hj24 => ?_)
      · refine ge_istore_n (ls' := [(1, .int v7), (0, .int y2), (2, .int x4)]) DX11_letterOf_24 (by decide) rfl ?_
        refine ge_iinc 2 (v := (x4 + (1 : Int32))) (ls' := [(2, .int (x4 + (1 : Int32))), (1, .int v7), (0, .int y2)]) DX11_letterOf_25 rfl rfl (by decide) rfl ?_
        refine ge_goto (tgt := 4) DX11_letterOf_28 (by decide) ?_
        refine ge_sub [2, 1, 0] rfl ?_
        exact ih v7 (x4 + (1 : Int32))
      refine ge_icmp_ne (tgt := 23) DX11_letterOf_16 (by decide) ?_ ?_
      · refine ge_iload_n 2 DX11_letterOf_19 rfl ?_
        refine ge_goto (tgt := 24) DX11_letterOf_20 (by decide) ?_
        refine ge_sub [0, 2] rfl ?_
        exact hj24 x4
      · refine ge_iload_n 1 DX11_letterOf_23 rfl ?_
        refine ge_sub [0, 2] rfl ?_
        exact hj24 x3
    · refine ge_sub [1] rfl ?_
      exact hk31 x3
set_option maxHeartbeats 4000000 in
set_option maxRecDepth 100000 in
theorem okX11_letterOf (l : Launch) (X : Xt) (m0 : Mem) (a0 : Int32) : Ct l yX11_letterOf cX11_letterOf 3 (some .int) rmX11_letterOf ιI X [.int a0] m0 (fX11_letterOf m0 a0) := by
  refine ct_of (own := RX11) (ls := [(0, .int a0)]) (by decide) rfl rfl (Nat.le_of_ble_eq_true rfl) (fun K => ?_)
  show gX11_letterOf K X 0 0 0 [(0, .int a0)] [] m0 (fX11_letterOf m0 a0)
  delta fX11_letterOf
  refine ge_iconst (v := (-1 : Int32)) DX11_letterOf_0 rfl ?_
  refine ge_istore_n (ls' := [(1, .int (-1 : Int32)), (0, .int a0)]) DX11_letterOf_1 (by decide) rfl ?_
  refine ge_iconst (v := (0 : Int32)) DX11_letterOf_2 rfl ?_
  refine ge_istore_n (ls' := [(2, .int (0 : Int32)), (1, .int (-1 : Int32)), (0, .int a0)]) DX11_letterOf_3 (by decide) rfl ?_
  refine ge_sub [2, 1, 0] rfl ?_
  refine lX11_letterOf_L4 K X m0 a0 (fun x6 => ?_) 5000 (-1 : Int32) (0 : Int32)
  · refine ge_iload_n 0 DX11_letterOf_31 rfl ?_
    exact ge_iret rfl DX11_letterOf_32
abbrev gX11_fieldsOf (K : Kt) (X : Xt) := GE (R := Int32) K rmX11_fieldsOf X cX11_fieldsOf 4 RX11 (some .int) (finM K X ιI 0 0)
set_option maxHeartbeats 4000000 in
set_option maxRecDepth 100000 in
theorem lX11_fieldsOf_L4 (K : Kt) (X : Xt) {k33 : Mem → Int32 → Option (Int32 × Mem)} (y2 : Int32)  (hk33 : ∀ (m5 : Mem) (x6 : Int32), gX11_fieldsOf K X 0 0 33 [(2, .int x6)] [] m5 (k33 m5 x6)) :
    ∀ (n : Nat) (m1 : Mem) (x3 : Int32) (x4 : Int32), gX11_fieldsOf K X 0 0 4 [(0, .ref (xad X 362)), (1, .int y2), (2, .int x3), (3, .int x4)] [] m1 (fX11_fieldsOf_L4 k33 y2 n m1 x3 x4) := by
  intro n
  induction n with
  | zero => intro m1 x3 x4; exact ge_none
  | succ n ih =>
    intro m1 x3 x4
    show gX11_fieldsOf K X 0 0 4 [(0, .ref (xad X 362)), (1, .int y2), (2, .int x3), (3, .int x4)] [] m1 (fX11_fieldsOf_L4_b k33 y2 (fX11_fieldsOf_L4 k33 y2 n) m1 x3 x4)
    delta fX11_fieldsOf_L4_b
    refine ge_iload_n 3 DX11_fieldsOf_4 rfl ?_
    refine ge_bipush (v := (8 : Int32)) DX11_fieldsOf_5 rfl ?_
    refine ge_icmp_ge (tgt := 33) DX11_fieldsOf_7 (by decide) ?_ ?_
    · refine ge_iload_n 2 DX11_fieldsOf_10 rfl ?_
      refine ge_aload_n 0 DX11_fieldsOf_11 rfl ?_
      refine ge_iload_n 1 DX11_fieldsOf_12 rfl ?_
      refine ge_iload_n 3 DX11_fieldsOf_13 rfl ?_
      refine ge_callVi0 (st := [.int x3]) cm_X11_93 DX11_fieldsOf_14 is_362 rfl (okX11_bitsOf (kl K) X m1 y2 x4) rfl rfl (Nat.le_of_ble_eq_true rfl) (by decide) ⟨rfl, rfl⟩ ⟨Nat.zero_le _, Nat.zero_le _⟩ (fun r10 m9 => ?_)
      refine ge_jn (P := fun k => ∀ (v11 : Int32), gX11_fieldsOf K X 0 0 25 [(0, .ref (xad X 362)), (1, .int y2), (3, .int x4)] [.int v11, .int x3] m9 (k v11)) (fun v11 => ?_) (fun j25 hj25 => ?_)
      · refine ge_iadd DX11_fieldsOf_25 ?_
        refine ge_topi (fun x12 => ?_)
        refine ge_istore_n (ls' := [(2, .int x12), (0, .ref (xad X 362)), (1, .int y2), (3, .int x4)]) DX11_fieldsOf_26 (by decide) rfl ?_
        refine ge_iinc 3 (v := (x4 + (1 : Int32))) (ls' := [(3, .int (x4 + (1 : Int32))), (2, .int x12), (0, .ref (xad X 362)), (1, .int y2)]) DX11_fieldsOf_27 rfl rfl (by decide) rfl ?_
        refine ge_goto (tgt := 4) DX11_fieldsOf_30 (by decide) ?_
        refine ge_sub [2, 3, 1, 0] rfl ?_
        exact ih m9 x12 (x4 + (1 : Int32))
      refine ge_if_eq (tgt := 24) DX11_fieldsOf_17 (by decide) ?_ ?_
      · refine ge_iconst (v := (0 : Int32)) DX11_fieldsOf_24 rfl ?_
        refine ge_sub [0, 1, 3] rfl ?_
        exact hj25 (0 : Int32)
      · refine ge_iconst (v := (1 : Int32)) DX11_fieldsOf_20 rfl ?_
        refine ge_goto (tgt := 25) DX11_fieldsOf_21 (by decide) ?_
        refine ge_sub [0, 1, 3] rfl ?_
        exact hj25 (1 : Int32)
    · refine ge_sub [2] rfl ?_
      exact hk33 m1 x3
set_option maxHeartbeats 4000000 in
set_option maxRecDepth 100000 in
theorem okX11_fieldsOf (l : Launch) (X : Xt) (m0 : Mem) (a1 : Int32) : Ct l yX11_fieldsOf cX11_fieldsOf 4 (some .int) rmX11_fieldsOf ιI X [.ref (xad X 362), .int a1] m0 (fX11_fieldsOf m0 a1) := by
  refine ct_of (own := RX11) (ls := [(0, .ref (xad X 362)), (1, .int a1)]) (by decide) rfl rfl (Nat.le_of_ble_eq_true rfl) (fun K => ?_)
  show gX11_fieldsOf K X 0 0 0 [(0, .ref (xad X 362)), (1, .int a1)] [] m0 (fX11_fieldsOf m0 a1)
  delta fX11_fieldsOf
  refine ge_iconst (v := (0 : Int32)) DX11_fieldsOf_0 rfl ?_
  refine ge_istore_n (ls' := [(2, .int (0 : Int32)), (0, .ref (xad X 362)), (1, .int a1)]) DX11_fieldsOf_1 (by decide) rfl ?_
  refine ge_iconst (v := (0 : Int32)) DX11_fieldsOf_2 rfl ?_
  refine ge_istore_n (ls' := [(3, .int (0 : Int32)), (2, .int (0 : Int32)), (0, .ref (xad X 362)), (1, .int a1)]) DX11_fieldsOf_3 (by decide) rfl ?_
  refine ge_sub [2, 3, 1, 0] rfl ?_
  refine lX11_fieldsOf_L4 K X a1 (fun m7 x8 => ?_) 5000 m0 (0 : Int32) (0 : Int32)
  · refine ge_iload_n 0 DX11_fieldsOf_33 rfl ?_
    exact ge_iret rfl DX11_fieldsOf_34
abbrev gX11_fieldAt (K : Kt) (X : Xt) := GE (R := Int32) K rmX11_fieldAt X cX11_fieldAt 7 RX11 (some .int) (finM K X ιI 0 0)
set_option maxHeartbeats 4000000 in
set_option maxRecDepth 100000 in
theorem lX11_fieldAt_L9 (K : Kt) (X : Xt) {k46 : Mem → Int32 → Option (Int32 × Mem)} {k65 : Mem → Option (Int32 × Mem)} (y2 : Int32) (y3 : Int32)  (hk46 : ∀ (m7 : Mem) (x8 : Int32), gX11_fieldAt K X 0 0 46 [(6, .int x8)] [] m7 (k46 m7 x8)) (hk65 : ∀ (m11 : Mem), gX11_fieldAt K X 0 0 65 [] [] m11 (k65 m11)) :
    ∀ (n : Nat) (m1 : Mem) (x4 : Int32) (x5 : Int32) (x6 : Int32), gX11_fieldAt K X 0 0 9 [(0, .ref (xad X 362)), (1, .int y2), (2, .int y3), (3, .int x4), (4, .int x5), (5, .int x6)] [] m1 (fX11_fieldAt_L9 k46 k65 y2 y3 n m1 x4 x5 x6) := by
  intro n
  induction n with
  | zero => intro m1 x4 x5 x6; exact ge_none
  | succ n ih =>
    intro m1 x4 x5 x6
    show gX11_fieldAt K X 0 0 9 [(0, .ref (xad X 362)), (1, .int y2), (2, .int y3), (3, .int x4), (4, .int x5), (5, .int x6)] [] m1 (fX11_fieldAt_L9_b k46 k65 y2 y3 (fX11_fieldAt_L9 k46 k65 y2 y3 n) m1 x4 x5 x6)
    delta fX11_fieldAt_L9_b
    refine ge_iload 5 DX11_fieldAt_9 rfl ?_
    refine ge_if_lt (tgt := 65) DX11_fieldAt_11 (by decide) ?_ ?_
    · refine ge_sub [] rfl ?_
      exact hk65 m1
    · refine ge_aload_n 0 DX11_fieldAt_14 rfl ?_
      refine ge_iload_n 1 DX11_fieldAt_15 rfl ?_
      refine ge_iload 5 DX11_fieldAt_16 rfl ?_
      refine ge_callVi0 (st := []) cm_X11_80 DX11_fieldAt_18 is_362 rfl (okX11_signAt (kl K) X m1 y2 x6) rfl rfl (Nat.le_of_ble_eq_true rfl) (by decide) ⟨rfl, rfl⟩ ⟨Nat.zero_le _, Nat.zero_le _⟩ (fun r14 m13 => ?_)
      refine ge_callSi0 (st := []) cm_X11_96 DX11_fieldAt_21 (okX11_letterOf (kl K) X m13 r14) rfl rfl (Nat.le_of_ble_eq_true rfl) (by decide) ⟨rfl, rfl⟩ ⟨Nat.zero_le _, Nat.zero_le _⟩ (fun r16 m15 => ?_)
      refine ge_istore (ls' := [(6, .int r16), (0, .ref (xad X 362)), (1, .int y2), (2, .int y3), (3, .int x4), (4, .int x5), (5, .int x6)]) DX11_fieldAt_24 (by decide) rfl ?_
      refine ge_iload 0 DX11_fieldAt_26 rfl ?_
      refine ge_jn (P := fun k => ∀ (m17 : Mem) (x18 : Int32) (x19 : Int32), gX11_fieldAt K X 0 0 59 [(0, .ref (xad X 362)), (1, .int y2), (2, .int y3), (3, .int x18), (4, .int x19), (5, .int x6)] [] m17 (k m17 x18 x19)) (fun m17 x18 x19 => ?_) (fun j59 hj59 => ?_)
      · refine ge_iinc 5 (v := (x6 + (-1 : Int32))) (ls' := [(5, .int (x6 + (-1 : Int32))), (0, .ref (xad X 362)), (1, .int y2), (2, .int y3), (3, .int x18), (4, .int x19)]) DX11_fieldAt_59 rfl rfl (by decide) rfl ?_
        refine ge_goto (tgt := 9) DX11_fieldAt_62 (by decide) ?_
        refine ge_sub [1, 2, 3, 4, 5, 0] rfl ?_
        exact ih m17 x18 x19 (x6 + (-1 : Int32))
      refine ge_if_lt (tgt := 59) DX11_fieldAt_28 (by decide) ?_ ?_
      · refine ge_sub [1, 2, 3, 4, 5, 6] rfl ?_
        exact hj59 m15 x4 x5
      · refine ge_iload_n 4 DX11_fieldAt_31 rfl ?_
        refine ge_iload 0 DX11_fieldAt_32 rfl ?_
        refine ge_callSi0 (st := []) cm_X11_100 DX11_fieldAt_34 (okX11_has (kl K) X m15 x4 r16) rfl rfl (Nat.le_of_ble_eq_true rfl) (by decide) ⟨rfl, rfl⟩ ⟨Nat.zero_le _, Nat.zero_le _⟩ (fun r21 m20 => ?_)
        refine ge_if_ne (tgt := 59) DX11_fieldAt_37 (by decide) ?_ ?_
        · refine ge_iload 5 DX11_fieldAt_40 rfl ?_
          refine ge_iload_n 3 DX11_fieldAt_42 rfl ?_
          refine ge_icmp_ne (tgt := 49) DX11_fieldAt_43 (by decide) ?_ ?_
          · refine ge_sub [0] rfl ?_
            exact hk46 m20 r16
          · refine ge_iload_n 4 DX11_fieldAt_49 rfl ?_
            refine ge_iconst (v := (1 : Int32)) DX11_fieldAt_50 rfl ?_
            refine ge_iload 0 DX11_fieldAt_51 rfl ?_
            refine ge_ishl DX11_fieldAt_53 ?_
            refine ge_ior DX11_fieldAt_54 ?_
            refine ge_topi (fun x22 => ?_)
            refine ge_istore_n (ls' := [(3, .int x22), (6, .int r16), (0, .ref (xad X 362)), (1, .int y2), (2, .int y3), (4, .int x5), (5, .int x6)]) DX11_fieldAt_55 (by decide) rfl ?_
            refine ge_iinc 5 (v := (x5 + (1 : Int32))) (ls' := [(4, .int (x5 + (1 : Int32))), (3, .int x22), (6, .int r16), (0, .ref (xad X 362)), (1, .int y2), (2, .int y3), (5, .int x6)]) DX11_fieldAt_56 rfl rfl (by decide) rfl ?_
            refine ge_sub [3, 4, 5, 1, 0, 6] rfl ?_
            exact hj59 m20 x22 (x5 + (1 : Int32))
        · refine ge_sub [1, 2, 3, 4, 5, 6] rfl ?_
          exact hj59 m20 x4 x5
set_option maxHeartbeats 4000000 in
set_option maxRecDepth 100000 in
theorem okX11_fieldAt (l : Launch) (X : Xt) (m0 : Mem) (a1 : Int32) (a2 : Int32) : Ct l yX11_fieldAt cX11_fieldAt 7 (some .int) rmX11_fieldAt ιI X [.ref (xad X 362), .int a1, .int a2] m0 (fX11_fieldAt m0 a1 a2) := by
  refine ct_of (own := RX11) (ls := [(0, .ref (xad X 362)), (1, .int a1), (2, .int a2)]) (by decide) rfl rfl (Nat.le_of_ble_eq_true rfl) (fun K => ?_)
  show gX11_fieldAt K X 0 0 0 [(0, .ref (xad X 362)), (1, .int a1), (2, .int a2)] [] m0 (fX11_fieldAt m0 a1 a2)
  delta fX11_fieldAt
  refine ge_iconst (v := (0 : Int32)) DX11_fieldAt_0 rfl ?_
  refine ge_istore_n (ls' := [(3, .int (0 : Int32)), (0, .ref (xad X 362)), (1, .int a1), (2, .int a2)]) DX11_fieldAt_1 (by decide) rfl ?_
  refine ge_iconst (v := (0 : Int32)) DX11_fieldAt_2 rfl ?_
  refine ge_istore (ls' := [(4, .int (0 : Int32)), (3, .int (0 : Int32)), (0, .ref (xad X 362)), (1, .int a1), (2, .int a2)]) DX11_fieldAt_3 (by decide) rfl ?_
  refine ge_bipush (v := (11 : Int32)) DX11_fieldAt_5 rfl ?_
  refine ge_istore (ls' := [(5, .int (11 : Int32)), (4, .int (0 : Int32)), (3, .int (0 : Int32)), (0, .ref (xad X 362)), (1, .int a1), (2, .int a2)]) DX11_fieldAt_7 (by decide) rfl ?_
  refine ge_sub [3, 4, 5, 2, 1, 0] rfl ?_
  refine lX11_fieldAt_L9 K X a1 a2 (fun m9 x10 => ?_) (fun m12 => ?_) 5000 m0 (0 : Int32) (0 : Int32) (11 : Int32)
  · refine ge_iload 0 DX11_fieldAt_46 rfl ?_
    exact ge_iret rfl DX11_fieldAt_48
  · refine ge_iconst (v := (-1 : Int32)) DX11_fieldAt_65 rfl ?_
    exact ge_iret rfl DX11_fieldAt_66
abbrev gX11_stands (K : Kt) (X : Xt) := GE (R := Int32) K rmX11_stands X cX11_stands 7 RX11 (some .int) (finM K X ιI 0 0)
set_option maxHeartbeats 4000000 in
set_option maxRecDepth 100000 in
theorem lX11_stands_L10 (K : Kt) (X : Xt) {k52 : Mem → Int32 → Int32 → Option (Int32 × Mem)} (y2 : Int32) (y3 : Int32) (y4 : Int32)  (hk52 : ∀ (m8 : Mem) (x9 : Int32) (x10 : Int32), gX11_stands K X 0 0 52 [(2, .int y3), (4, .int x9), (5, .int x10)] [] m8 (k52 m8 x9 x10)) :
    ∀ (n : Nat) (m1 : Mem) (x5 : Int32) (x6 : Int32) (x7 : Int32), gX11_stands K X 0 0 10 [(0, .ref (xad X 362)), (1, .int y2), (2, .int y3), (3, .int y4), (4, .int x5), (5, .int x6), (6, .int x7)] [] m1 (fX11_stands_L10 k52 y2 y3 y4 n m1 x5 x6 x7) := by
  intro n
  induction n with
  | zero => intro m1 x5 x6 x7; exact ge_none
  | succ n ih =>
    intro m1 x5 x6 x7
    show gX11_stands K X 0 0 10 [(0, .ref (xad X 362)), (1, .int y2), (2, .int y3), (3, .int y4), (4, .int x5), (5, .int x6), (6, .int x7)] [] m1 (fX11_stands_L10_b k52 y2 y3 y4 (fX11_stands_L10 k52 y2 y3 y4 n) m1 x5 x6 x7)
    delta fX11_stands_L10_b
    refine ge_iload 6 DX11_stands_10 rfl ?_
    refine ge_if_lt (tgt := 52) DX11_stands_12 (by decide) ?_ ?_
    · refine ge_sub [2, 4, 5] rfl ?_
      exact hk52 m1 x5 x6
    · refine ge_aload_n 0 DX11_stands_15 rfl ?_
      refine ge_iload_n 1 DX11_stands_16 rfl ?_
      refine ge_iload 6 DX11_stands_17 rfl ?_
      refine ge_callVi0 (st := []) cm_X11_80 DX11_stands_19 is_362 rfl (okX11_signAt (kl K) X m1 y2 x7) rfl rfl (Nat.le_of_ble_eq_true rfl) (by decide) ⟨rfl, rfl⟩ ⟨Nat.zero_le _, Nat.zero_le _⟩ (fun r15 m14 => ?_)
      refine ge_gets DX11_stands_22 sl_X11_84 ?_
      refine ge_iload_n 2 DX11_stands_25 rfl ?_
      refine ge_sald (j := 3) DX11_stands_26 (by decide) rfl rfl ?_
      refine ge_jn (P := fun k => ∀ (x16 : Int32) (x17 : Int32), gX11_stands K X 0 0 46 [(0, .ref (xad X 362)), (1, .int y2), (2, .int y3), (3, .int y4), (4, .int x16), (5, .int x17), (6, .int x7)] [] m14 (k x16 x17)) (fun x16 x17 => ?_) (fun j46 hj46 => ?_)
      · refine ge_iinc 6 (v := (x7 + (-1 : Int32))) (ls' := [(6, .int (x7 + (-1 : Int32))), (0, .ref (xad X 362)), (1, .int y2), (2, .int y3), (3, .int y4), (4, .int x16), (5, .int x17)]) DX11_stands_46 rfl rfl (by decide) rfl ?_
        refine ge_goto (tgt := 10) DX11_stands_49 (by decide) ?_
        refine ge_sub [1, 2, 3, 4, 5, 6, 0] rfl ?_
        exact ih m14 x16 x17 (x7 + (-1 : Int32))
      refine ge_icmp_ne (tgt := 46) DX11_stands_27 (by decide) ?_ ?_
      · refine ge_iconst (v := (2 : Int32)) DX11_stands_30 rfl ?_
        refine ge_iload 4 DX11_stands_31 rfl ?_
        refine ge_imul DX11_stands_33 ?_
        refine ge_iload_n 3 DX11_stands_34 rfl ?_
        refine ge_iload 6 DX11_stands_35 rfl ?_
        refine ge_ishr DX11_stands_37 ?_
        refine ge_iconst (v := (1 : Int32)) DX11_stands_38 rfl ?_
        refine ge_iand DX11_stands_39 ?_
        refine ge_iadd DX11_stands_40 ?_
        refine ge_topi (fun x18 => ?_)
        refine ge_istore (ls' := [(4, .int x18), (0, .ref (xad X 362)), (1, .int y2), (2, .int y3), (3, .int y4), (5, .int x6), (6, .int x7)]) DX11_stands_41 (by decide) rfl ?_
        refine ge_iinc 5 (v := (x6 + (1 : Int32))) (ls' := [(5, .int (x6 + (1 : Int32))), (4, .int x18), (0, .ref (xad X 362)), (1, .int y2), (2, .int y3), (3, .int y4), (6, .int x7)]) DX11_stands_43 rfl rfl (by decide) rfl ?_
        refine ge_sub [2, 3, 4, 5, 1, 0, 6] rfl ?_
        exact hj46 x18 (x6 + (1 : Int32))
      · exact hj46 x5 x6
set_option maxHeartbeats 4000000 in
set_option maxRecDepth 100000 in
theorem okX11_stands (l : Launch) (X : Xt) (m0 : Mem) (a1 : Int32) (a2 : Int32) (a3 : Int32) : Ct l yX11_stands cX11_stands 7 (some .int) rmX11_stands ιI X [.ref (xad X 362), .int a1, .int a2, .int a3] m0 (fX11_stands m0 a1 a2 a3) := by
  refine ct_of (own := RX11) (ls := [(0, .ref (xad X 362)), (1, .int a1), (2, .int a2), (3, .int a3)]) (by decide) rfl rfl (Nat.le_of_ble_eq_true rfl) (fun K => ?_)
  show gX11_stands K X 0 0 0 [(0, .ref (xad X 362)), (1, .int a1), (2, .int a2), (3, .int a3)] [] m0 (fX11_stands m0 a1 a2 a3)
  delta fX11_stands
  refine ge_iconst (v := (0 : Int32)) DX11_stands_0 rfl ?_
  refine ge_istore (ls' := [(4, .int (0 : Int32)), (0, .ref (xad X 362)), (1, .int a1), (2, .int a2), (3, .int a3)]) DX11_stands_1 (by decide) rfl ?_
  refine ge_iconst (v := (0 : Int32)) DX11_stands_3 rfl ?_
  refine ge_istore (ls' := [(5, .int (0 : Int32)), (4, .int (0 : Int32)), (0, .ref (xad X 362)), (1, .int a1), (2, .int a2), (3, .int a3)]) DX11_stands_4 (by decide) rfl ?_
  refine ge_bipush (v := (11 : Int32)) DX11_stands_6 rfl ?_
  refine ge_istore (ls' := [(6, .int (11 : Int32)), (5, .int (0 : Int32)), (4, .int (0 : Int32)), (0, .ref (xad X 362)), (1, .int a1), (2, .int a2), (3, .int a3)]) DX11_stands_8 (by decide) rfl ?_
  refine ge_sub [3, 4, 5, 6, 2, 1, 0] rfl ?_
  refine lX11_stands_L10 K X a1 a2 a3 (fun m11 x12 x13 => ?_) 5000 m0 (0 : Int32) (0 : Int32) (11 : Int32)
  · refine ge_iload_n 0 DX11_stands_52 rfl ?_
    refine ge_iconst (v := (3 : Int32)) DX11_stands_53 rfl ?_
    refine ge_icmp_le (tgt := 78) DX11_stands_54 (by decide) ?_ ?_
    · refine ge_iload 1 DX11_stands_57 rfl ?_
      refine ge_iconst (v := (1 : Int32)) DX11_stands_59 rfl ?_
      refine ge_iload 2 DX11_stands_60 rfl ?_
      refine ge_iconst (v := (1 : Int32)) DX11_stands_62 rfl ?_
      refine ge_isub DX11_stands_63 ?_
      refine ge_ishl DX11_stands_64 ?_
      refine ge_icmp_lt (tgt := 78) DX11_stands_65 (by decide) ?_ ?_
      · refine ge_iload 1 DX11_stands_78 rfl ?_
        exact ge_iret rfl DX11_stands_80
      · refine ge_iload 1 DX11_stands_68 rfl ?_
        refine ge_iconst (v := (1 : Int32)) DX11_stands_70 rfl ?_
        refine ge_iload 2 DX11_stands_71 rfl ?_
        refine ge_ishl DX11_stands_73 ?_
        refine ge_isub DX11_stands_74 ?_
        refine ge_goto (tgt := 80) DX11_stands_75 (by decide) ?_
        exact ge_iret rfl DX11_stands_80
    · refine ge_iload 1 DX11_stands_78 rfl ?_
      exact ge_iret rfl DX11_stands_80
abbrev gX11_canStand (K : Kt) (X : Xt) := GE (R := Int32) K rmX11_canStand X cX11_canStand 5 RX11 (some .boolean) (finM K X ιI 0 0)
set_option maxHeartbeats 4000000 in
set_option maxRecDepth 100000 in
theorem okX11_canStand (l : Launch) (X : Xt) (m0 : Mem) (a1 : Int32) (a2 : Int32) (a3 : Int32) : Ct l yX11_canStand cX11_canStand 5 (some .boolean) rmX11_canStand ιI X [.ref (xad X 362), .int a1, .int a2, .int a3] m0 (fX11_canStand m0 a1 a2 a3) := by
  refine ct_of (own := RX11) (ls := [(0, .ref (xad X 362)), (1, .int a1), (2, .int a2), (3, .int a3)]) (by decide) rfl rfl (Nat.le_of_ble_eq_true rfl) (fun K => ?_)
  show gX11_canStand K X 0 0 0 [(0, .ref (xad X 362)), (1, .int a1), (2, .int a2), (3, .int a3)] [] m0 (fX11_canStand m0 a1 a2 a3)
  delta fX11_canStand
  refine ge_aload_n 0 DX11_canStand_0 rfl ?_
  refine ge_iload_n 1 DX11_canStand_1 rfl ?_
  refine ge_iload_n 2 DX11_canStand_2 rfl ?_
  refine ge_callVi0 (st := []) cm_X11_93 DX11_canStand_3 is_362 rfl (okX11_bitsOf (kl K) X m0 a1 a2) rfl rfl (Nat.le_of_ble_eq_true rfl) (by decide) ⟨rfl, rfl⟩ ⟨Nat.zero_le _, Nat.zero_le _⟩ (fun r2 m1 => ?_)
  refine ge_callSi0 (st := []) cm_X11_104 DX11_canStand_6 (okX11_size (kl K) X m1 r2) rfl rfl (Nat.le_of_ble_eq_true rfl) (by decide) ⟨rfl, rfl⟩ ⟨Nat.zero_le _, Nat.zero_le _⟩ (fun r4 m3 => ?_)
  refine ge_istore (ls' := [(4, .int r4), (0, .ref (xad X 362)), (1, .int a1), (2, .int a2), (3, .int a3)]) DX11_canStand_9 (by decide) rfl ?_
  refine ge_iload_n 3 DX11_canStand_11 rfl ?_
  refine ge_iconst (v := (3 : Int32)) DX11_canStand_12 rfl ?_
  refine ge_icmp_le (tgt := 41) DX11_canStand_13 (by decide) ?_ ?_
  · refine ge_iload_n 4 DX11_canStand_16 rfl ?_
    refine ge_i2l DX11_canStand_17 ?_
    refine ge_iconst (v := (1 : Int32)) DX11_canStand_18 rfl ?_
    refine ge_iload 0 DX11_canStand_19 rfl ?_
    refine ge_iconst (v := (1 : Int32)) DX11_canStand_21 rfl ?_
    refine ge_isub DX11_canStand_22 ?_
    refine ge_ishl DX11_canStand_23 ?_
    refine ge_ineg DX11_canStand_24 ?_
    refine ge_i2l DX11_canStand_25 ?_
    refine ge_iconst (v := (1 : Int32)) DX11_canStand_26 rfl ?_
    refine ge_iload 0 DX11_canStand_27 rfl ?_
    refine ge_iconst (v := (1 : Int32)) DX11_canStand_29 rfl ?_
    refine ge_isub DX11_canStand_30 ?_
    refine ge_ishl DX11_canStand_31 ?_
    refine ge_iconst (v := (1 : Int32)) DX11_canStand_32 rfl ?_
    refine ge_isub DX11_canStand_33 ?_
    refine ge_i2l DX11_canStand_34 ?_
    refine ge_callSi0 (st := []) cm_X11_89 DX11_canStand_35 (okX11_isIn (kl K) X m3 ((a3).toInt64) (((-((1 : Int32) <<< ((r4 - (1 : Int32)) &&& 31)))).toInt64) (((((1 : Int32) <<< ((r4 - (1 : Int32)) &&& 31)) - (1 : Int32))).toInt64)) rfl rfl (Nat.le_of_ble_eq_true rfl) (by decide) ⟨rfl, rfl⟩ ⟨Nat.zero_le _, Nat.zero_le _⟩ (fun r6 m5 => ?_)
    refine ge_goto (tgt := 54) DX11_canStand_38 (by decide) ?_
    exact ge_zret rfl DX11_canStand_54
  · refine ge_iload_n 4 DX11_canStand_41 rfl ?_
    refine ge_i2l DX11_canStand_42 ?_
    refine ge_lconst (v := (0 : Int64)) DX11_canStand_43 rfl ?_
    refine ge_iconst (v := (1 : Int32)) DX11_canStand_44 rfl ?_
    refine ge_iload 0 DX11_canStand_45 rfl ?_
    refine ge_ishl DX11_canStand_47 ?_
    refine ge_iconst (v := (1 : Int32)) DX11_canStand_48 rfl ?_
    refine ge_isub DX11_canStand_49 ?_
    refine ge_i2l DX11_canStand_50 ?_
    refine ge_callSi0 (st := []) cm_X11_89 DX11_canStand_51 (okX11_isIn (kl K) X m3 ((a3).toInt64) (0 : Int64) (((((1 : Int32) <<< (r4 &&& 31)) - (1 : Int32))).toInt64)) rfl rfl (Nat.le_of_ble_eq_true rfl) (by decide) ⟨rfl, rfl⟩ ⟨Nat.zero_le _, Nat.zero_le _⟩ (fun r8 m7 => ?_)
    exact ge_zret rfl DX11_canStand_54
abbrev gX11_laidIn (K : Kt) (X : Xt) := GE (R := Int32) K rmX11_laidIn X cX11_laidIn 8 RX11 (some .int) (finM K X ιI 0 0)
set_option maxHeartbeats 4000000 in
set_option maxRecDepth 100000 in
theorem lX11_laidIn_L10 (K : Kt) (X : Xt) {k73 : Mem → Int32 → Option (Int32 × Mem)} (y2 : Int32) (y3 : Int32)  (hk73 : ∀ (m7 : Mem) (x8 : Int32), gX11_laidIn K X 0 0 73 [(5, .int x8)] [] m7 (k73 m7 x8)) :
    ∀ (n : Nat) (m1 : Mem) (x4 : Int32) (x5 : Int32) (x6 : Int32), gX11_laidIn K X 0 0 10 [(0, .ref (xad X 362)), (1, .int y2), (2, .int y3), (5, .int x4), (6, .int x5), (7, .int x6)] [] m1 (fX11_laidIn_L10 k73 y2 y3 n m1 x4 x5 x6) := by
  intro n
  induction n with
  | zero => intro m1 x4 x5 x6; exact ge_none
  | succ n ih =>
    intro m1 x4 x5 x6
    show gX11_laidIn K X 0 0 10 [(0, .ref (xad X 362)), (1, .int y2), (2, .int y3), (5, .int x4), (6, .int x5), (7, .int x6)] [] m1 (fX11_laidIn_L10_b k73 y2 y3 (fX11_laidIn_L10 k73 y2 y3 n) m1 x4 x5 x6)
    delta fX11_laidIn_L10_b
    refine ge_iload 5 DX11_laidIn_10 rfl ?_
    refine ge_bipush (v := (12 : Int32)) DX11_laidIn_12 rfl ?_
    refine ge_icmp_ge (tgt := 73) DX11_laidIn_14 (by decide) ?_ ?_
    · refine ge_aload_n 0 DX11_laidIn_17 rfl ?_
      refine ge_iload_n 1 DX11_laidIn_18 rfl ?_
      refine ge_iload 5 DX11_laidIn_19 rfl ?_
      refine ge_callVi0 (st := []) cm_X11_80 DX11_laidIn_21 is_362 rfl (okX11_signAt (kl K) X m1 y2 x6) rfl rfl (Nat.le_of_ble_eq_true rfl) (by decide) ⟨rfl, rfl⟩ ⟨Nat.zero_le _, Nat.zero_le _⟩ (fun r12 m11 => ?_)
      refine ge_gets DX11_laidIn_24 sl_X11_84 ?_
      refine ge_iload_n 2 DX11_laidIn_27 rfl ?_
      refine ge_sald (j := 3) DX11_laidIn_28 (by decide) rfl rfl ?_
      refine ge_jn (P := fun k => ∀ (x13 : Int32) (x14 : Int32), gX11_laidIn K X 0 0 67 [(0, .ref (xad X 362)), (1, .int y2), (2, .int y3), (5, .int x13), (6, .int x14), (7, .int x6)] [] m11 (k x13 x14)) (fun x13 x14 => ?_) (fun j67 hj67 => ?_)
      · refine ge_iinc 5 (v := (x6 + (1 : Int32))) (ls' := [(7, .int (x6 + (1 : Int32))), (0, .ref (xad X 362)), (1, .int y2), (2, .int y3), (5, .int x13), (6, .int x14)]) DX11_laidIn_67 rfl rfl (by decide) rfl ?_
        refine ge_goto (tgt := 10) DX11_laidIn_70 (by decide) ?_
        refine ge_sub [1, 2, 3, 4, 5, 0] rfl ?_
        exact ih m11 x13 x14 (x6 + (1 : Int32))
      refine ge_icmp_ne (tgt := 67) DX11_laidIn_29 (by decide) ?_ ?_
      · refine ge_iload 4 DX11_laidIn_32 rfl ?_
        refine ge_iconst (v := (1 : Int32)) DX11_laidIn_34 rfl ?_
        refine ge_iand DX11_laidIn_35 ?_
        refine ge_iconst (v := (1 : Int32)) DX11_laidIn_36 rfl ?_
        refine ge_jn (P := fun k => ∀ (v15 : Int32), gX11_laidIn K X 0 0 59 [(0, .ref (xad X 362)), (1, .int y2), (2, .int y3), (6, .int x5), (7, .int x6)] [.int v15] m11 (k v15)) (fun v15 => ?_) (fun j59 hj59 => ?_)
        · refine ge_istore (ls' := [(5, .int v15), (0, .ref (xad X 362)), (1, .int y2), (2, .int y3), (6, .int x5), (7, .int x6)]) DX11_laidIn_59 (by decide) rfl ?_
          refine ge_iload 4 DX11_laidIn_61 rfl ?_
          refine ge_iconst (v := (1 : Int32)) DX11_laidIn_63 rfl ?_
          refine ge_ishr DX11_laidIn_64 ?_
          refine ge_topi (fun x16 => ?_)
          refine ge_istore (ls' := [(6, .int x16), (5, .int v15), (0, .ref (xad X 362)), (1, .int y2), (2, .int y3), (7, .int x6)]) DX11_laidIn_65 (by decide) rfl ?_
          refine ge_sub [2, 3, 4, 1, 0, 5] rfl ?_
          exact hj67 v15 x16
        refine ge_icmp_ne (tgt := 50) DX11_laidIn_37 (by decide) ?_ ?_
        · refine ge_iload 3 DX11_laidIn_40 rfl ?_
          refine ge_iconst (v := (1 : Int32)) DX11_laidIn_42 rfl ?_
          refine ge_iload 5 DX11_laidIn_43 rfl ?_
          refine ge_ishl DX11_laidIn_45 ?_
          refine ge_ior DX11_laidIn_46 ?_
          refine ge_goto (tgt := 59) DX11_laidIn_47 (by decide) ?_
          refine ge_sub [0, 1, 2, 4, 5] rfl ?_
          exact hj59 (x4 ||| ((1 : Int32) <<< (x6 &&& 31)))
        · refine ge_iload 3 DX11_laidIn_50 rfl ?_
          refine ge_iconst (v := (1 : Int32)) DX11_laidIn_52 rfl ?_
          refine ge_iload 5 DX11_laidIn_53 rfl ?_
          refine ge_ishl DX11_laidIn_55 ?_
          refine ge_iconst (v := (-1 : Int32)) DX11_laidIn_56 rfl ?_
          refine ge_ixor DX11_laidIn_57 ?_
          refine ge_iand DX11_laidIn_58 ?_
          refine ge_sub [0, 1, 2, 4, 5] rfl ?_
          exact hj59 (x4 &&& (((1 : Int32) <<< (x6 &&& 31)) ^^^ (-1 : Int32)))
      · exact hj67 x4 x5
    · refine ge_sub [3] rfl ?_
      exact hk73 m1 x4
set_option maxHeartbeats 4000000 in
set_option maxRecDepth 100000 in
theorem okX11_laidIn (l : Launch) (X : Xt) (m0 : Mem) (a1 : Int32) (a2 : Int32) (a3 : Int32) (a4 : Int32) : Ct l yX11_laidIn cX11_laidIn 8 (some .int) rmX11_laidIn ιI X [.ref (xad X 362), .int a1, .int a2, .int a3, .int a4] m0 (fX11_laidIn m0 a1 a2 a3 a4) := by
  refine ct_of (own := RX11) (ls := [(0, .ref (xad X 362)), (1, .int a1), (2, .int a2), (3, .int a3), (4, .int a4)]) (by decide) rfl rfl (Nat.le_of_ble_eq_true rfl) (fun K => ?_)
  show gX11_laidIn K X 0 0 0 [(0, .ref (xad X 362)), (1, .int a1), (2, .int a2), (3, .int a3), (4, .int a4)] [] m0 (fX11_laidIn m0 a1 a2 a3 a4)
  delta fX11_laidIn
  refine ge_iload_n 3 DX11_laidIn_0 rfl ?_
  refine ge_istore (ls' := [(5, .int a3), (0, .ref (xad X 362)), (1, .int a1), (2, .int a2), (3, .int a3), (4, .int a4)]) DX11_laidIn_1 (by decide) rfl ?_
  refine ge_iload 5 DX11_laidIn_3 rfl ?_
  refine ge_istore (ls' := [(6, .int a4), (5, .int a3), (0, .ref (xad X 362)), (1, .int a1), (2, .int a2), (3, .int a3), (4, .int a4)]) DX11_laidIn_5 (by decide) rfl ?_
  refine ge_iconst (v := (0 : Int32)) DX11_laidIn_7 rfl ?_
  refine ge_istore (ls' := [(7, .int (0 : Int32)), (6, .int a4), (5, .int a3), (0, .ref (xad X 362)), (1, .int a1), (2, .int a2), (3, .int a3), (4, .int a4)]) DX11_laidIn_8 (by decide) rfl ?_
  refine ge_sub [3, 4, 5, 2, 1, 0] rfl ?_
  refine lX11_laidIn_L10 K X a1 a2 (fun m9 x10 => ?_) 5000 m0 a3 a4 (0 : Int32)
  · refine ge_iload 0 DX11_laidIn_73 rfl ?_
    exact ge_iret rfl DX11_laidIn_75
abbrev gX11_ruleHolds (K : Kt) (X : Xt) := GE (R := Int32) K rmX11_ruleHolds X cX11_ruleHolds 6 RX11 (some .boolean) (finM K X ιI 0 0)
set_option maxHeartbeats 4000000 in
set_option maxRecDepth 100000 in
theorem okX11_ruleHolds (l : Launch) (X : Xt) (m0 : Mem) (a1 : Int32) (a2 : Int32) (a3 : Int32) : Ct l yX11_ruleHolds cX11_ruleHolds 6 (some .boolean) rmX11_ruleHolds ιI X [.ref (xad X 362), .int a1, .int a2, .int a3] m0 (fX11_ruleHolds m0 a1 a2 a3) := by
  refine ct_of (own := RX11) (ls := [(0, .ref (xad X 362)), (1, .int a1), (2, .int a2), (3, .int a3)]) (by decide) rfl rfl (Nat.le_of_ble_eq_true rfl) (fun K => ?_)
  show gX11_ruleHolds K X 0 0 0 [(0, .ref (xad X 362)), (1, .int a1), (2, .int a2), (3, .int a3)] [] m0 (fX11_ruleHolds m0 a1 a2 a3)
  delta fX11_ruleHolds
  refine ge_bipush (v := (9 : Int32)) DX11_ruleHolds_0 rfl ?_
  refine ge_iload_n 1 DX11_ruleHolds_2 rfl ?_
  refine ge_imul DX11_ruleHolds_3 ?_
  refine ge_iconst (v := (3 : Int32)) DX11_ruleHolds_4 rfl ?_
  refine ge_iload_n 2 DX11_ruleHolds_5 rfl ?_
  refine ge_imul DX11_ruleHolds_6 ?_
  refine ge_iadd DX11_ruleHolds_7 ?_
  refine ge_topi (fun x1 => ?_)
  refine ge_istore (ls' := [(4, .int x1), (0, .ref (xad X 362)), (1, .int a1), (2, .int a2), (3, .int a3)]) DX11_ruleHolds_8 (by decide) rfl ?_
  refine ge_aload_n 1 DX11_ruleHolds_10 rfl ?_
  refine ge_iload_n 2 DX11_ruleHolds_11 rfl ?_
  refine ge_aload_n 1 DX11_ruleHolds_12 rfl ?_
  refine ge_getR (i := 368) DX11_ruleHolds_13 fl_X11_25 is_362 (by decide) rfl ?_
  refine ge_iload 0 DX11_ruleHolds_16 rfl ?_
  refine ge_iconst (v := (1 : Int32)) DX11_ruleHolds_18 rfl ?_
  refine ge_iadd DX11_ruleHolds_19 ?_
  refine ge_iald DX11_ruleHolds_20 is_368 al_368 ?_
  refine ge_iload_n 4 DX11_ruleHolds_21 rfl ?_
  refine ge_callVi0 (st := []) cm_X11_107 DX11_ruleHolds_22 is_362 rfl (okX11_stands (kl K) X m0 a1 (m0 368 (ix (x1 + (1 : Int32)))) a3) rfl rfl (Nat.le_of_ble_eq_true rfl) (by decide) ⟨rfl, rfl⟩ ⟨Nat.zero_le _, Nat.zero_le _⟩ (fun r3 m2 => ?_)
  refine ge_istore (ls' := [(5, .int r3), (4, .int x1), (0, .ref (xad X 362)), (1, .int a1), (2, .int a2), (3, .int a3)]) DX11_ruleHolds_25 (by decide) rfl ?_
  refine ge_aload_n 2 DX11_ruleHolds_27 rfl ?_
  refine ge_getR (i := 368) DX11_ruleHolds_28 fl_X11_25 is_362 (by decide) rfl ?_
  refine ge_iload 1 DX11_ruleHolds_31 rfl ?_
  refine ge_iald DX11_ruleHolds_33 is_368 al_368 ?_
  refine ge_bipush (v := (35 : Int32)) DX11_ruleHolds_34 rfl ?_
  refine ge_icmp_ne (tgt := 59) DX11_ruleHolds_36 (by decide) ?_ ?_
  · refine ge_iload 0 DX11_ruleHolds_39 rfl ?_
    refine ge_aload_n 2 DX11_ruleHolds_41 rfl ?_
    refine ge_getR (i := 368) DX11_ruleHolds_42 fl_X11_25 is_362 (by decide) rfl ?_
    refine ge_iload 1 DX11_ruleHolds_45 rfl ?_
    refine ge_iconst (v := (2 : Int32)) DX11_ruleHolds_47 rfl ?_
    refine ge_iadd DX11_ruleHolds_48 ?_
    refine ge_iald DX11_ruleHolds_49 is_368 al_368 ?_
    refine ge_icmp_eq (tgt := 57) DX11_ruleHolds_50 (by decide) ?_ ?_
    · refine ge_iconst (v := (0 : Int32)) DX11_ruleHolds_57 rfl ?_
      exact ge_zretc rfl rfl DX11_ruleHolds_58
    · refine ge_iconst (v := (1 : Int32)) DX11_ruleHolds_53 rfl ?_
      refine ge_goto (tgt := 58) DX11_ruleHolds_54 (by decide) ?_
      exact ge_zretc rfl rfl DX11_ruleHolds_58
  · refine ge_aload_n 2 DX11_ruleHolds_59 rfl ?_
    refine ge_getR (i := 368) DX11_ruleHolds_60 fl_X11_25 is_362 (by decide) rfl ?_
    refine ge_iload 1 DX11_ruleHolds_63 rfl ?_
    refine ge_iald DX11_ruleHolds_65 is_368 al_368 ?_
    refine ge_bipush (v := (47 : Int32)) DX11_ruleHolds_66 rfl ?_
    refine ge_icmp_ne (tgt := 94) DX11_ruleHolds_68 (by decide) ?_ ?_
    · refine ge_iload 0 DX11_ruleHolds_71 rfl ?_
      refine ge_aload_n 2 DX11_ruleHolds_73 rfl ?_
      refine ge_getR (i := 368) DX11_ruleHolds_74 fl_X11_25 is_362 (by decide) rfl ?_
      refine ge_iload 1 DX11_ruleHolds_77 rfl ?_
      refine ge_iconst (v := (2 : Int32)) DX11_ruleHolds_79 rfl ?_
      refine ge_iadd DX11_ruleHolds_80 ?_
      refine ge_iald DX11_ruleHolds_81 is_368 al_368 ?_
      refine ge_irem DX11_ruleHolds_82 ?_
      refine ge_if_ne (tgt := 90) DX11_ruleHolds_83 (by decide) ?_ ?_
      · refine ge_iconst (v := (1 : Int32)) DX11_ruleHolds_86 rfl ?_
        refine ge_goto (tgt := 119) DX11_ruleHolds_87 (by decide) ?_
        exact ge_zretc rfl rfl DX11_ruleHolds_119
      · refine ge_iconst (v := (0 : Int32)) DX11_ruleHolds_90 rfl ?_
        refine ge_goto (tgt := 119) DX11_ruleHolds_91 (by decide) ?_
        exact ge_zretc rfl rfl DX11_ruleHolds_119
    · refine ge_iload 0 DX11_ruleHolds_94 rfl ?_
      refine ge_aload_n 2 DX11_ruleHolds_96 rfl ?_
      refine ge_iload_n 3 DX11_ruleHolds_97 rfl ?_
      refine ge_aload_n 2 DX11_ruleHolds_98 rfl ?_
      refine ge_getR (i := 368) DX11_ruleHolds_99 fl_X11_25 is_362 (by decide) rfl ?_
      refine ge_iload 1 DX11_ruleHolds_102 rfl ?_
      refine ge_iconst (v := (2 : Int32)) DX11_ruleHolds_104 rfl ?_
      refine ge_iadd DX11_ruleHolds_105 ?_
      refine ge_iald DX11_ruleHolds_106 is_368 al_368 ?_
      refine ge_iload_n 5 DX11_ruleHolds_107 rfl ?_
      refine ge_callVi0 (st := [.int r3]) cm_X11_107 DX11_ruleHolds_108 is_362 rfl (okX11_stands (kl K) X m2 a1 (m2 368 (ix (x1 + (2 : Int32)))) a3) rfl rfl (Nat.le_of_ble_eq_true rfl) (by decide) ⟨rfl, rfl⟩ ⟨Nat.zero_le _, Nat.zero_le _⟩ (fun r5 m4 => ?_)
      refine ge_icmp_ge (tgt := 118) DX11_ruleHolds_111 (by decide) ?_ ?_
      · refine ge_iconst (v := (1 : Int32)) DX11_ruleHolds_114 rfl ?_
        refine ge_goto (tgt := 119) DX11_ruleHolds_115 (by decide) ?_
        exact ge_zretc rfl rfl DX11_ruleHolds_119
      · refine ge_iconst (v := (0 : Int32)) DX11_ruleHolds_118 rfl ?_
        exact ge_zretc rfl rfl DX11_ruleHolds_119
abbrev gX11_fitsWord (K : Kt) (X : Xt) := GE (R := Int32) K rmX11_fitsWord X cX11_fitsWord 5 RX11 (some .boolean) (finM K X ιI 0 0)
set_option maxHeartbeats 4000000 in
set_option maxRecDepth 100000 in
theorem lX11_fitsWord_L22 (K : Kt) (X : Xt) {k60 : Mem → Int32 → Option (Int32 × Mem)} (y6 : Int32) (y7 : Int32)  (hk60 : ∀ (m10 : Mem) (x11 : Int32), gX11_fitsWord K X 0 0 60 [(3, .int x11)] [] m10 (k60 m10 x11)) :
    ∀ (n : Nat) (m5 : Mem) (x8 : Int32) (x9 : Int32), gX11_fitsWord K X 0 0 22 [(0, .ref (xad X 362)), (1, .int y6), (2, .int y7), (3, .int x8), (4, .int x9)] [] m5 (fX11_fitsWord_L22 k60 y6 y7 n m5 x8 x9) := by
  intro n
  induction n with
  | zero => intro m5 x8 x9; exact ge_none
  | succ n ih =>
    intro m5 x8 x9
    show gX11_fitsWord K X 0 0 22 [(0, .ref (xad X 362)), (1, .int y6), (2, .int y7), (3, .int x8), (4, .int x9)] [] m5 (fX11_fitsWord_L22_b k60 y6 y7 (fX11_fitsWord_L22 k60 y6 y7 n) m5 x8 x9)
    delta fX11_fitsWord_L22_b
    refine ge_iload 4 DX11_fitsWord_22 rfl ?_
    refine ge_aload_n 0 DX11_fitsWord_24 rfl ?_
    refine ge_getR (i := 367) DX11_fitsWord_25 fl_X11_22 is_362 (by decide) rfl ?_
    refine ge_iload_n 1 DX11_fitsWord_28 rfl ?_
    refine ge_iald DX11_fitsWord_29 is_367 al_367 ?_
    refine ge_icmp_ge (tgt := 60) DX11_fitsWord_30 (by decide) ?_ ?_
    · refine ge_iload_n 3 DX11_fitsWord_33 rfl ?_
      refine ge_jn (P := fun k => ∀ (m14 : Mem) (v15 : Int32), gX11_fitsWord K X 0 0 53 [(0, .ref (xad X 362)), (1, .int y6), (2, .int y7), (4, .int x9)] [.int v15] m14 (k m14 v15)) (fun m14 v15 => ?_) (fun j53 hj53 => ?_)
      · refine ge_istore_n (ls' := [(3, .int v15), (0, .ref (xad X 362)), (1, .int y6), (2, .int y7), (4, .int x9)]) DX11_fitsWord_53 (by decide) rfl ?_
        refine ge_iinc 4 (v := (x9 + (1 : Int32))) (ls' := [(4, .int (x9 + (1 : Int32))), (3, .int v15), (0, .ref (xad X 362)), (1, .int y6), (2, .int y7)]) DX11_fitsWord_54 rfl rfl (by decide) rfl ?_
        refine ge_goto (tgt := 22) DX11_fitsWord_57 (by decide) ?_
        refine ge_sub [2, 3, 4, 1, 0] rfl ?_
        exact ih m14 v15 (x9 + (1 : Int32))
      refine ge_jn (P := fun k => ∀ (m16 : Mem), gX11_fitsWord K X 0 0 52 [(0, .ref (xad X 362)), (1, .int y6), (2, .int y7), (4, .int x9)] [] m16 (k m16)) (fun m16 => ?_) (fun j52 hj52 => ?_)
      · refine ge_iconst (v := (0 : Int32)) DX11_fitsWord_52 rfl ?_
        exact hj53 m16 (0 : Int32)
      refine ge_if_eq (tgt := 52) DX11_fitsWord_34 (by decide) ?_ ?_
      · refine ge_sub [0, 1, 2, 4] rfl ?_
        exact hj52 m5
      · refine ge_aload_n 0 DX11_fitsWord_37 rfl ?_
        refine ge_iload_n 1 DX11_fitsWord_38 rfl ?_
        refine ge_iload 4 DX11_fitsWord_39 rfl ?_
        refine ge_iload_n 2 DX11_fitsWord_41 rfl ?_
        refine ge_callVi0 (st := []) cm_X11_117 DX11_fitsWord_42 is_362 rfl (okX11_ruleHolds (kl K) X m5 y6 x9 y7) rfl rfl (Nat.le_of_ble_eq_true rfl) (by decide) ⟨rfl, rfl⟩ ⟨Nat.zero_le _, Nat.zero_le _⟩ (fun r18 m17 => ?_)
        refine ge_if_eq (tgt := 52) DX11_fitsWord_45 (by decide) ?_ ?_
        · refine ge_sub [0, 1, 2, 4] rfl ?_
          exact hj52 m17
        · refine ge_iconst (v := (1 : Int32)) DX11_fitsWord_48 rfl ?_
          refine ge_goto (tgt := 53) DX11_fitsWord_49 (by decide) ?_
          refine ge_sub [0, 1, 2, 4] rfl ?_
          exact hj53 m17 (1 : Int32)
    · refine ge_sub [3] rfl ?_
      exact hk60 m5 x8
set_option maxHeartbeats 4000000 in
set_option maxRecDepth 100000 in
theorem okX11_fitsWord (l : Launch) (X : Xt) (m0 : Mem) (a1 : Int32) (a2 : Int32) : Ct l yX11_fitsWord cX11_fitsWord 5 (some .boolean) rmX11_fitsWord ιI X [.ref (xad X 362), .int a1, .int a2] m0 (fX11_fitsWord m0 a1 a2) := by
  refine ct_of (own := RX11) (ls := [(0, .ref (xad X 362)), (1, .int a1), (2, .int a2)]) (by decide) rfl rfl (Nat.le_of_ble_eq_true rfl) (fun K => ?_)
  show gX11_fitsWord K X 0 0 0 [(0, .ref (xad X 362)), (1, .int a1), (2, .int a2)] [] m0 (fX11_fitsWord m0 a1 a2)
  delta fX11_fitsWord
  refine ge_iload_n 2 DX11_fitsWord_0 rfl ?_
  refine ge_aload_n 0 DX11_fitsWord_1 rfl ?_
  refine ge_iload_n 1 DX11_fitsWord_2 rfl ?_
  refine ge_callVi0 (st := [.int a2]) cm_X11_111 DX11_fitsWord_3 is_362 rfl (okX11_maskOf (kl K) X m0 a1) rfl rfl (Nat.le_of_ble_eq_true rfl) (by decide) ⟨rfl, rfl⟩ ⟨Nat.zero_le _, Nat.zero_le _⟩ (fun r2 m1 => ?_)
  refine ge_iand DX11_fitsWord_6 ?_
  refine ge_aload_n 0 DX11_fitsWord_7 rfl ?_
  refine ge_iload_n 1 DX11_fitsWord_8 rfl ?_
  refine ge_callVi0 (st := [.int (a2 &&& r2)]) cm_X11_114 DX11_fitsWord_9 is_362 rfl (okX11_valueOf (kl K) X m1 a1) rfl rfl (Nat.le_of_ble_eq_true rfl) (by decide) ⟨rfl, rfl⟩ ⟨Nat.zero_le _, Nat.zero_le _⟩ (fun r4 m3 => ?_)
  refine ge_icmp_eq (tgt := 17) DX11_fitsWord_12 (by decide) ?_ ?_
  · refine ge_iconst (v := (1 : Int32)) DX11_fitsWord_17 rfl ?_
    refine ge_istore_n (ls' := [(3, .int (1 : Int32)), (0, .ref (xad X 362)), (1, .int a1), (2, .int a2)]) DX11_fitsWord_18 (by decide) rfl ?_
    refine ge_iconst (v := (0 : Int32)) DX11_fitsWord_19 rfl ?_
    refine ge_istore (ls' := [(4, .int (0 : Int32)), (3, .int (1 : Int32)), (0, .ref (xad X 362)), (1, .int a1), (2, .int a2)]) DX11_fitsWord_20 (by decide) rfl ?_
    refine ge_sub [2, 3, 4, 1, 0] rfl ?_
    refine lX11_fitsWord_L22 K X a1 a2 (fun m12 x13 => ?_) 5000 m3 (1 : Int32) (0 : Int32)
    · refine ge_iload_n 0 DX11_fitsWord_60 rfl ?_
      exact ge_zret rfl DX11_fitsWord_61
  · refine ge_iconst (v := (0 : Int32)) DX11_fitsWord_15 rfl ?_
    exact ge_zretc rfl rfl DX11_fitsWord_16
abbrev gX11_isOver (K : Kt) (X : Xt) := GE (R := Int32) K rmX11_isOver X cX11_isOver 5 RX11 (some .boolean) (finM K X ιI 0 0)
set_option maxHeartbeats 4000000 in
set_option maxRecDepth 100000 in
theorem okX11_isOver (l : Launch) (X : Xt) (m0 : Mem) (a1 : Int32) (a2 : Int32) : Ct l yX11_isOver cX11_isOver 5 (some .boolean) rmX11_isOver ιI X [.ref (xad X 362), .int a1, .int a2] m0 (fX11_isOver m0 a1 a2) := by
  refine ct_of (own := RX11) (ls := [(0, .ref (xad X 362)), (1, .int a1), (2, .int a2)]) (by decide) rfl rfl (Nat.le_of_ble_eq_true rfl) (fun K => ?_)
  show gX11_isOver K X 0 0 0 [(0, .ref (xad X 362)), (1, .int a1), (2, .int a2)] [] m0 (fX11_isOver m0 a1 a2)
  delta fX11_isOver
  refine ge_aload_n 0 DX11_isOver_0 rfl ?_
  refine ge_iload_n 1 DX11_isOver_1 rfl ?_
  refine ge_callVi0 (st := []) cm_X11_111 DX11_isOver_2 is_362 rfl (okX11_maskOf (kl K) X m0 a1) rfl rfl (Nat.le_of_ble_eq_true rfl) (by decide) ⟨rfl, rfl⟩ ⟨Nat.zero_le _, Nat.zero_le _⟩ (fun r2 m1 => ?_)
  refine ge_istore_n (ls' := [(3, .int r2), (0, .ref (xad X 362)), (1, .int a1), (2, .int a2)]) DX11_isOver_5 (by decide) rfl ?_
  refine ge_aload_n 1 DX11_isOver_6 rfl ?_
  refine ge_iload_n 3 DX11_isOver_7 rfl ?_
  refine ge_callVi0 (st := []) cm_X11_111 DX11_isOver_8 is_362 rfl (okX11_maskOf (kl K) X m1 a2) rfl rfl (Nat.le_of_ble_eq_true rfl) (by decide) ⟨rfl, rfl⟩ ⟨Nat.zero_le _, Nat.zero_le _⟩ (fun r4 m3 => ?_)
  refine ge_istore (ls' := [(4, .int r4), (3, .int r2), (0, .ref (xad X 362)), (1, .int a1), (2, .int a2)]) DX11_isOver_11 (by decide) rfl ?_
  refine ge_iload_n 1 DX11_isOver_13 rfl ?_
  refine ge_iload 0 DX11_isOver_14 rfl ?_
  refine ge_iand DX11_isOver_16 ?_
  refine ge_iload 0 DX11_isOver_17 rfl ?_
  refine ge_icmp_ne (tgt := 48) DX11_isOver_19 (by decide) ?_ ?_
  · refine ge_iload_n 1 DX11_isOver_22 rfl ?_
    refine ge_iload 0 DX11_isOver_23 rfl ?_
    refine ge_icmp_eq (tgt := 48) DX11_isOver_25 (by decide) ?_ ?_
    · refine ge_iconst (v := (0 : Int32)) DX11_isOver_48 rfl ?_
      exact ge_zretc rfl rfl DX11_isOver_49
    · refine ge_aload_n 2 DX11_isOver_28 rfl ?_
      refine ge_iload_n 3 DX11_isOver_29 rfl ?_
      refine ge_callVi0 (st := []) cm_X11_114 DX11_isOver_30 is_362 rfl (okX11_valueOf (kl K) X m3 a1) rfl rfl (Nat.le_of_ble_eq_true rfl) (by decide) ⟨rfl, rfl⟩ ⟨Nat.zero_le _, Nat.zero_le _⟩ (fun r6 m5 => ?_)
      refine ge_iload 0 DX11_isOver_33 rfl ?_
      refine ge_iand DX11_isOver_35 ?_
      refine ge_aload_n 2 DX11_isOver_36 rfl ?_
      refine ge_iload_n 4 DX11_isOver_37 rfl ?_
      refine ge_callVi0 (st := [.int (r6 &&& r4)]) cm_X11_114 DX11_isOver_38 is_362 rfl (okX11_valueOf (kl K) X m5 a2) rfl rfl (Nat.le_of_ble_eq_true rfl) (by decide) ⟨rfl, rfl⟩ ⟨Nat.zero_le _, Nat.zero_le _⟩ (fun r8 m7 => ?_)
      refine ge_icmp_ne (tgt := 48) DX11_isOver_41 (by decide) ?_ ?_
      · refine ge_iconst (v := (1 : Int32)) DX11_isOver_44 rfl ?_
        refine ge_goto (tgt := 49) DX11_isOver_45 (by decide) ?_
        exact ge_zretc rfl rfl DX11_isOver_49
      · refine ge_iconst (v := (0 : Int32)) DX11_isOver_48 rfl ?_
        exact ge_zretc rfl rfl DX11_isOver_49
  · refine ge_iconst (v := (0 : Int32)) DX11_isOver_48 rfl ?_
    exact ge_zretc rfl rfl DX11_isOver_49
abbrev gX11_newForms (K : Kt) (X : Xt) := GE (R := Unit) K rmX11_newForms X cX11_newForms 3 RX11 none (finM K X ιV 0 0)
set_option maxHeartbeats 4000000 in
set_option maxRecDepth 100000 in
theorem lX11_newForms_L7 (K : Kt) (X : Xt) {k43 : Mem → Option (Unit × Mem)}   (hk43 : ∀ (m4 : Mem), gX11_newForms K X 0 0 43 [(0, .ref (xad X 362))] [] m4 (k43 m4)) :
    ∀ (n : Nat) (m2 : Mem) (x3 : Int32), gX11_newForms K X 0 0 7 [(0, .ref (xad X 362)), (2, .int x3)] [] m2 (fX11_newForms_L7 k43  n m2 x3) := by
  intro n
  induction n with
  | zero => intro m2 x3; exact ge_none
  | succ n ih =>
    intro m2 x3
    show gX11_newForms K X 0 0 7 [(0, .ref (xad X 362)), (2, .int x3)] [] m2 (fX11_newForms_L7_b k43  (fX11_newForms_L7 k43  n) m2 x3)
    delta fX11_newForms_L7_b
    refine ge_iload_n 1 DX11_newForms_7 rfl ?_
    refine ge_aload_n 0 DX11_newForms_8 rfl ?_
    refine ge_getI DX11_newForms_9 fl_X11_76 is_362 (by decide) rfl ?_
    refine ge_icmp_ge (tgt := 43) DX11_newForms_12 (by decide) ?_ ?_
    · refine ge_aload_n 0 DX11_newForms_15 rfl ?_
      refine ge_getR (i := 369) DX11_newForms_16 fl_X11_28 is_362 (by decide) rfl ?_
      refine ge_iload_n 1 DX11_newForms_19 rfl ?_
      refine ge_aload_n 0 DX11_newForms_20 rfl ?_
      refine ge_iload_n 1 DX11_newForms_21 rfl ?_
      refine ge_callVi0 (st := [.int x3, .ref (xad X 369)]) cm_X11_121 DX11_newForms_22 is_362 rfl (okX11_fixedIn (kl K) X m2 x3) rfl rfl (Nat.le_of_ble_eq_true rfl) (by decide) ⟨rfl, rfl⟩ ⟨Nat.zero_le _, Nat.zero_le _⟩ (fun r9 m8 => ?_)
      refine ge_iast DX11_newForms_25 is_369 al_369 (fun m10 => ?_)
      refine ge_aload_n 0 DX11_newForms_26 rfl ?_
      refine ge_getR (i := 370) DX11_newForms_27 fl_X11_31 is_362 (by decide) rfl ?_
      refine ge_iload_n 1 DX11_newForms_30 rfl ?_
      refine ge_aload_n 0 DX11_newForms_31 rfl ?_
      refine ge_iload_n 1 DX11_newForms_32 rfl ?_
      refine ge_callVi0 (st := [.int x3, .ref (xad X 370)]) cm_X11_124 DX11_newForms_33 is_362 rfl (okX11_onesIn (kl K) X m10 x3) rfl rfl (Nat.le_of_ble_eq_true rfl) (by decide) ⟨rfl, rfl⟩ ⟨Nat.zero_le _, Nat.zero_le _⟩ (fun r12 m11 => ?_)
      refine ge_iast DX11_newForms_36 is_370 al_370 (fun m13 => ?_)
      refine ge_iinc 1 (v := (x3 + (1 : Int32))) (ls' := [(2, .int (x3 + (1 : Int32))), (0, .ref (xad X 362))]) DX11_newForms_37 rfl rfl (by decide) rfl ?_
      refine ge_goto (tgt := 7) DX11_newForms_40 (by decide) ?_
      refine ge_sub [1, 0] rfl ?_
      exact ih m13 (x3 + (1 : Int32))
    · refine ge_sub [0] rfl ?_
      exact hk43 m2
set_option maxHeartbeats 4000000 in
set_option maxRecDepth 100000 in
theorem okX11_newForms (l : Launch) (X : Xt) (m0 : Mem) (a1 : Int32) : Ct l yX11_newForms cX11_newForms 3 none rmX11_newForms ιV X [.ref (xad X 362), .int a1] m0 (fX11_newForms m0 a1) := by
  refine ct_of (own := RX11) (ls := [(0, .ref (xad X 362)), (1, .int a1)]) (by decide) rfl rfl (Nat.le_of_ble_eq_true rfl) (fun K => ?_)
  show gX11_newForms K X 0 0 0 [(0, .ref (xad X 362)), (1, .int a1)] [] m0 (fX11_newForms m0 a1)
  delta fX11_newForms
  refine ge_aload_n 0 DX11_newForms_0 rfl ?_
  refine ge_iload_n 1 DX11_newForms_1 rfl ?_
  refine ge_put DX11_newForms_2 fp_X11_76 is_362 (by decide) rfl (fun m1 => ?_)
  refine ge_iconst (v := (0 : Int32)) DX11_newForms_5 rfl ?_
  refine ge_istore_n (ls' := [(2, .int (0 : Int32)), (0, .ref (xad X 362)), (1, .int a1)]) DX11_newForms_6 (by decide) rfl ?_
  refine ge_sub [1, 0] rfl ?_
  refine lX11_newForms_L7 K X  (fun m5 => ?_) 5000 m1 (0 : Int32)
  · refine ge_aload_n 0 DX11_newForms_43 rfl ?_
    refine ge_iconst (v := (0 : Int32)) DX11_newForms_44 rfl ?_
    refine ge_putz rfl DX11_newForms_45 fp_X11_127 is_362 (by decide) rfl (fun m6 => ?_)
    refine ge_aload_n 0 DX11_newForms_48 rfl ?_
    refine ge_iconst (v := (0 : Int32)) DX11_newForms_49 rfl ?_
    refine ge_put DX11_newForms_50 fp_X11_131 is_362 (by decide) rfl (fun m7 => ?_)
    exact ge_vret rfl DX11_newForms_53
