abbrev gX11_meant (K : Kt) (X : Xt) := GE (R := Int32) K rmX11_meant X cX11_meant 2 RX11 (some .int) (finM K X ιI 1 12)
set_option maxHeartbeats 4000000 in
set_option maxRecDepth 100000 in
theorem okX11_meant (l : Launch) (X : Xt) (hX : xn X = 385) (m0 : Mem) (a1 : Int32) : Ct l yX11_meant cX11_meant 2 (some .int) rmX11_meant ιI X [.ref (xad X 362), .int a1] m0 (fX11_meant m0 a1) := by
  refine ct_of (own := RX11) (ls := [(0, .ref (xad X 362)), (1, .int a1)]) (by decide) rfl rfl (Nat.le_of_ble_eq_true rfl) (fun K => ?_)
  show gX11_meant K X 0 0 0 [(0, .ref (xad X 362)), (1, .int a1)] [] m0 (fX11_meant m0 a1)
  delta fX11_meant
  refine ge_aload_n 0 DX11_meant_0 rfl ?_
  refine ge_callVvA (st := []) cm_X11_140 DX11_meant_1 is_362 rfl (okX11_looks (kl K) X hX m0) rfl rfl (Nat.le_of_ble_eq_true rfl) (by decide) (dc := 1) (ds := 12) ⟨rfl, rfl⟩ ⟨by show _ + 1 ≤ (1 : Nat); omega, by show _ + 12 ≤ (12 : Nat); omega⟩ (fun m1 => ?_)
  refine ge_aload_n 0 DX11_meant_4 rfl ?_
  refine ge_getR (i := 372) DX11_meant_5 fl_X11_37 is_362 (by decide) rfl ?_
  refine ge_iload_n 1 DX11_meant_8 rfl ?_
  refine ge_iald DX11_meant_9 is_372 al_372 ?_
  refine ge_widen (cells' := 1) (slots' := 12) (by omega) (by omega) ?_
  exact ge_iret rfl DX11_meant_10
abbrev gX11_feed (K : Kt) (X : Xt) := GE (R := Int32) K rmX11_feed X cX11_feed 5 RX11 (some .int) (finM K X ιI 0 0)
set_option maxHeartbeats 4000000 in
set_option maxRecDepth 100000 in
theorem lX11_feed_L43 (K : Kt) (X : Xt) {k86 : Mem → Option (Int32 × Mem)} (y8 : Int64) (y9 : Int32)  (hk86 : ∀ (m11 : Mem), gX11_feed K X 0 0 86 [(0, .ref (xad X 362))] [] m11 (k86 m11)) :
    ∀ (n : Nat) (m7 : Mem) (x10 : Int32), gX11_feed K X 0 0 43 [(0, .ref (xad X 362)), (1, .long y8), (3, .int y9), (4, .int x10)] [] m7 (fX11_feed_L43 k86 y8 y9 n m7 x10) := by
  intro n
  induction n with
  | zero => intro m7 x10; exact ge_none
  | succ n ih =>
    intro m7 x10
    show gX11_feed K X 0 0 43 [(0, .ref (xad X 362)), (1, .long y8), (3, .int y9), (4, .int x10)] [] m7 (fX11_feed_L43_b k86 y8 y9 (fX11_feed_L43 k86 y8 y9 n) m7 x10)
    delta fX11_feed_L43_b
    refine ge_iload 3 DX11_feed_43 rfl ?_
    refine ge_iload_n 2 DX11_feed_45 rfl ?_
    refine ge_icmp_ge (tgt := 86) DX11_feed_46 (by decide) ?_ ?_
    · refine ge_aload_n 0 DX11_feed_49 rfl ?_
      refine ge_getR (i := 373) DX11_feed_50 fl_X11_40 is_362 (by decide) rfl ?_
      refine ge_aload_n 0 DX11_feed_53 rfl ?_
      refine ge_getI DX11_feed_54 fl_X11_148 is_362 (by decide) rfl ?_
      refine ge_lload_n 1 DX11_feed_57 rfl ?_
      refine ge_bipush (v := (8 : Int32)) DX11_feed_58 rfl ?_
      refine ge_iload 3 DX11_feed_60 rfl ?_
      refine ge_imul DX11_feed_62 ?_
      refine ge_lshr DX11_feed_63 ?_
      refine ge_ldc2 (v := (255 : Int64)) kw_X11_151 DX11_feed_64 ?_
      refine ge_land DX11_feed_67 ?_
      refine ge_l2i DX11_feed_68 ?_
      refine ge_iast DX11_feed_69 is_373 al_373 (fun m13 => ?_)
      refine ge_aload_n 0 DX11_feed_70 rfl ?_
      refine ge_dup DX11_feed_71 rfl ?_
      refine ge_getI DX11_feed_72 fl_X11_148 is_362 (by decide) rfl ?_
      refine ge_iconst (v := (1 : Int32)) DX11_feed_75 rfl ?_
      refine ge_iadd DX11_feed_76 ?_
      refine ge_put DX11_feed_77 fp_X11_148 is_362 (by decide) rfl (fun m14 => ?_)
      refine ge_iinc 3 (v := (x10 + (1 : Int32))) (ls' := [(4, .int (x10 + (1 : Int32))), (0, .ref (xad X 362)), (1, .long y8), (3, .int y9)]) DX11_feed_80 rfl rfl (by decide) rfl ?_
      refine ge_goto (tgt := 43) DX11_feed_83 (by decide) ?_
      refine ge_sub [1, 2, 3, 0] rfl ?_
      exact ih m14 (x10 + (1 : Int32))
    · refine ge_sub [0] rfl ?_
      exact hk86 m7
set_option maxHeartbeats 4000000 in
set_option maxRecDepth 100000 in
theorem okX11_feed (l : Launch) (X : Xt) (m0 : Mem) (a1 : Int64) (a3 : Int32) : Ct l yX11_feed cX11_feed 5 (some .int) rmX11_feed ιI X [.ref (xad X 362), .long a1, .int a3] m0 (fX11_feed m0 a1 a3) := by
  refine ct_of (own := RX11) (ls := [(0, .ref (xad X 362)), (1, .long a1), (3, .int a3)]) (by decide) rfl rfl (Nat.le_of_ble_eq_true rfl) (fun K => ?_)
  show gX11_feed K X 0 0 0 [(0, .ref (xad X 362)), (1, .long a1), (3, .int a3)] [] m0 (fX11_feed m0 a1 a3)
  delta fX11_feed
  refine ge_iload_n 2 DX11_feed_0 rfl ?_
  refine ge_i2l DX11_feed_1 ?_
  refine ge_lconst (v := (1 : Int64)) DX11_feed_2 rfl ?_
  refine ge_ldc2 (v := (8 : Int64)) kw_X11_143 DX11_feed_3 ?_
  refine ge_callSi0 (st := []) cm_X11_89 DX11_feed_6 (okX11_isIn (kl K) X m0 ((a3).toInt64) (1 : Int64) (8 : Int64)) rfl rfl (Nat.le_of_ble_eq_true rfl) (by decide) ⟨rfl, rfl⟩ ⟨Nat.zero_le _, Nat.zero_le _⟩ (fun r2 m1 => ?_)
  refine ge_if_ne (tgt := 20) DX11_feed_9 (by decide) ?_ ?_
  · refine ge_aload_n 0 DX11_feed_12 rfl ?_
    refine ge_sipush (v := (-1001 : Int32)) DX11_feed_13 rfl ?_
    refine ge_callVi0 (st := []) cm_X11_145 DX11_feed_16 is_362 rfl (okX11_refuse (kl K) X m1 (-1001 : Int32)) rfl rfl (Nat.le_of_ble_eq_true rfl) (by decide) ⟨rfl, rfl⟩ ⟨Nat.zero_le _, Nat.zero_le _⟩ (fun r4 m3 => ?_)
    exact ge_iret rfl DX11_feed_19
  · refine ge_aload_n 0 DX11_feed_20 rfl ?_
    refine ge_getI DX11_feed_21 fl_X11_148 is_362 (by decide) rfl ?_
    refine ge_iload_n 2 DX11_feed_24 rfl ?_
    refine ge_iadd DX11_feed_25 ?_
    refine ge_sipush (v := (200 : Int32)) DX11_feed_26 rfl ?_
    refine ge_icmp_le (tgt := 40) DX11_feed_29 (by decide) ?_ ?_
    · refine ge_aload_n 0 DX11_feed_32 rfl ?_
      refine ge_sipush (v := (-1002 : Int32)) DX11_feed_33 rfl ?_
      refine ge_callVi0 (st := []) cm_X11_145 DX11_feed_36 is_362 rfl (okX11_refuse (kl K) X m1 (-1002 : Int32)) rfl rfl (Nat.le_of_ble_eq_true rfl) (by decide) ⟨rfl, rfl⟩ ⟨Nat.zero_le _, Nat.zero_le _⟩ (fun r6 m5 => ?_)
      exact ge_iret rfl DX11_feed_39
    · refine ge_iconst (v := (0 : Int32)) DX11_feed_40 rfl ?_
      refine ge_istore (ls' := [(4, .int (0 : Int32)), (0, .ref (xad X 362)), (1, .long a1), (3, .int a3)]) DX11_feed_41 (by decide) rfl ?_
      refine ge_sub [1, 2, 3, 0] rfl ?_
      refine lX11_feed_L43 K X a1 a3 (fun m12 => ?_) 5000 m1 (0 : Int32)
      · refine ge_aload_n 0 DX11_feed_86 rfl ?_
        refine ge_getI DX11_feed_87 fl_X11_148 is_362 (by decide) rfl ?_
        exact ge_iret rfl DX11_feed_90
abbrev gX11_wipe (K : Kt) (X : Xt) := GE (R := Int32) K rmX11_wipe X cX11_wipe 2 RX11 (some .int) (finM K X ιI 0 0)
set_option maxHeartbeats 4000000 in
set_option maxRecDepth 100000 in
theorem okX11_wipe (l : Launch) (X : Xt) (m0 : Mem) : Ct l yX11_wipe cX11_wipe 2 (some .int) rmX11_wipe ιI X [.ref (xad X 362)] m0 (fX11_wipe m0) := by
  refine ct_of (own := RX11) (ls := [(0, .ref (xad X 362))]) (by decide) rfl rfl (Nat.le_of_ble_eq_true rfl) (fun K => ?_)
  show gX11_wipe K X 0 0 0 [(0, .ref (xad X 362))] [] m0 (fX11_wipe m0)
  delta fX11_wipe
  refine ge_aload_n 0 DX11_wipe_0 rfl ?_
  refine ge_getI DX11_wipe_1 fl_X11_148 is_362 (by decide) rfl ?_
  refine ge_topi (fun x1 => ?_)
  refine ge_istore_n (ls' := [(1, .int x1), (0, .ref (xad X 362))]) DX11_wipe_4 (by decide) rfl ?_
  refine ge_aload_n 1 DX11_wipe_5 rfl ?_
  refine ge_iconst (v := (0 : Int32)) DX11_wipe_6 rfl ?_
  refine ge_put DX11_wipe_7 fp_X11_148 is_362 (by decide) rfl (fun m2 => ?_)
  refine ge_iload_n 0 DX11_wipe_10 rfl ?_
  exact ge_iret rfl DX11_wipe_11
abbrev gX11_byteAt (K : Kt) (X : Xt) := GE (R := Int32) K rmX11_byteAt X cX11_byteAt 2 RX11 (some .int) (finM K X ιI 0 0)
set_option maxHeartbeats 4000000 in
set_option maxRecDepth 100000 in
theorem okX11_byteAt (l : Launch) (X : Xt) (m0 : Mem) (a1 : Int32) : Ct l yX11_byteAt cX11_byteAt 2 (some .int) rmX11_byteAt ιI X [.ref (xad X 362), .int a1] m0 (fX11_byteAt m0 a1) := by
  refine ct_of (own := RX11) (ls := [(0, .ref (xad X 362)), (1, .int a1)]) (by decide) rfl rfl (Nat.le_of_ble_eq_true rfl) (fun K => ?_)
  show gX11_byteAt K X 0 0 0 [(0, .ref (xad X 362)), (1, .int a1)] [] m0 (fX11_byteAt m0 a1)
  delta fX11_byteAt
  refine ge_iload_n 1 DX11_byteAt_0 rfl ?_
  refine ge_aload_n 0 DX11_byteAt_1 rfl ?_
  refine ge_getI DX11_byteAt_2 fl_X11_153 is_362 (by decide) rfl ?_
  refine ge_icmp_ge (tgt := 17) DX11_byteAt_5 (by decide) ?_ ?_
  · refine ge_aload_n 0 DX11_byteAt_8 rfl ?_
    refine ge_getR (i := 373) DX11_byteAt_9 fl_X11_40 is_362 (by decide) rfl ?_
    refine ge_iload_n 1 DX11_byteAt_12 rfl ?_
    refine ge_iald DX11_byteAt_13 is_373 al_373 ?_
    refine ge_goto (tgt := 18) DX11_byteAt_14 (by decide) ?_
    exact ge_iret rfl DX11_byteAt_18
  · refine ge_iconst (v := (-1 : Int32)) DX11_byteAt_17 rfl ?_
    exact ge_iret rfl DX11_byteAt_18
abbrev gX11_isLetter (K : Kt) (X : Xt) := GE (R := Int32) K rmX11_isLetter X cX11_isLetter 1 RX11 (some .boolean) (finM K X ιI 0 0)
set_option maxHeartbeats 4000000 in
set_option maxRecDepth 100000 in
theorem okX11_isLetter (l : Launch) (X : Xt) (m0 : Mem) (a0 : Int32) : Ct l yX11_isLetter cX11_isLetter 1 (some .boolean) rmX11_isLetter ιI X [.int a0] m0 (fX11_isLetter m0 a0) := by
  refine ct_of (own := RX11) (ls := [(0, .int a0)]) (by decide) rfl rfl (Nat.le_of_ble_eq_true rfl) (fun K => ?_)
  show gX11_isLetter K X 0 0 0 [(0, .int a0)] [] m0 (fX11_isLetter m0 a0)
  delta fX11_isLetter
  refine ge_iload_n 0 DX11_isLetter_0 rfl ?_
  refine ge_bipush (v := (97 : Int32)) DX11_isLetter_1 rfl ?_
  refine ge_icmp_lt (tgt := 16) DX11_isLetter_3 (by decide) ?_ ?_
  · refine ge_iconst (v := (0 : Int32)) DX11_isLetter_16 rfl ?_
    exact ge_zretc rfl rfl DX11_isLetter_17
  · refine ge_iload_n 0 DX11_isLetter_6 rfl ?_
    refine ge_bipush (v := (122 : Int32)) DX11_isLetter_7 rfl ?_
    refine ge_icmp_gt (tgt := 16) DX11_isLetter_9 (by decide) ?_ ?_
    · refine ge_iconst (v := (0 : Int32)) DX11_isLetter_16 rfl ?_
      exact ge_zretc rfl rfl DX11_isLetter_17
    · refine ge_iconst (v := (1 : Int32)) DX11_isLetter_12 rfl ?_
      refine ge_goto (tgt := 17) DX11_isLetter_13 (by decide) ?_
      exact ge_zretc rfl rfl DX11_isLetter_17
abbrev gX11_isDigit (K : Kt) (X : Xt) := GE (R := Int32) K rmX11_isDigit X cX11_isDigit 1 RX11 (some .boolean) (finM K X ιI 0 0)
set_option maxHeartbeats 4000000 in
set_option maxRecDepth 100000 in
theorem okX11_isDigit (l : Launch) (X : Xt) (m0 : Mem) (a0 : Int32) : Ct l yX11_isDigit cX11_isDigit 1 (some .boolean) rmX11_isDigit ιI X [.int a0] m0 (fX11_isDigit m0 a0) := by
  refine ct_of (own := RX11) (ls := [(0, .int a0)]) (by decide) rfl rfl (Nat.le_of_ble_eq_true rfl) (fun K => ?_)
  show gX11_isDigit K X 0 0 0 [(0, .int a0)] [] m0 (fX11_isDigit m0 a0)
  delta fX11_isDigit
  refine ge_iload_n 0 DX11_isDigit_0 rfl ?_
  refine ge_bipush (v := (48 : Int32)) DX11_isDigit_1 rfl ?_
  refine ge_icmp_lt (tgt := 16) DX11_isDigit_3 (by decide) ?_ ?_
  · refine ge_iconst (v := (0 : Int32)) DX11_isDigit_16 rfl ?_
    exact ge_zretc rfl rfl DX11_isDigit_17
  · refine ge_iload_n 0 DX11_isDigit_6 rfl ?_
    refine ge_bipush (v := (57 : Int32)) DX11_isDigit_7 rfl ?_
    refine ge_icmp_gt (tgt := 16) DX11_isDigit_9 (by decide) ?_ ?_
    · refine ge_iconst (v := (0 : Int32)) DX11_isDigit_16 rfl ?_
      exact ge_zretc rfl rfl DX11_isDigit_17
    · refine ge_iconst (v := (1 : Int32)) DX11_isDigit_12 rfl ?_
      refine ge_goto (tgt := 17) DX11_isDigit_13 (by decide) ?_
      exact ge_zretc rfl rfl DX11_isDigit_17
abbrev gX11_wrongAt (K : Kt) (X : Xt) := GE (R := Unit) K rmX11_wrongAt X cX11_wrongAt 2 RX11 none (finM K X ιV 0 0)
set_option maxHeartbeats 4000000 in
set_option maxRecDepth 100000 in
theorem okX11_wrongAt (l : Launch) (X : Xt) (m0 : Mem) (a1 : Int32) : Ct l yX11_wrongAt cX11_wrongAt 2 none rmX11_wrongAt ιV X [.ref (xad X 362), .int a1] m0 (fX11_wrongAt m0 a1) := by
  refine ct_of (own := RX11) (ls := [(0, .ref (xad X 362)), (1, .int a1)]) (by decide) rfl rfl (Nat.le_of_ble_eq_true rfl) (fun K => ?_)
  show gX11_wrongAt K X 0 0 0 [(0, .ref (xad X 362)), (1, .int a1)] [] m0 (fX11_wrongAt m0 a1)
  delta fX11_wrongAt
  refine ge_aload_n 0 DX11_wrongAt_0 rfl ?_
  refine ge_aload_n 0 DX11_wrongAt_1 rfl ?_
  refine ge_getI DX11_wrongAt_2 fl_X11_156 is_362 (by decide) rfl ?_
  refine ge_jn (P := fun k => ∀ (v1 : Int32), gX11_wrongAt K X 0 0 16 [] [.int v1, .ref (xad X 362)] m0 (k v1)) (fun v1 => ?_) (fun j16 hj16 => ?_)
  · refine ge_put DX11_wrongAt_16 fp_X11_156 is_362 (by decide) rfl (fun m2 => ?_)
    exact ge_vret rfl DX11_wrongAt_19
  refine ge_if_ge (tgt := 12) DX11_wrongAt_5 (by decide) ?_ ?_
  · refine ge_iload_n 1 DX11_wrongAt_8 rfl ?_
    refine ge_goto (tgt := 16) DX11_wrongAt_9 (by decide) ?_
    refine ge_sub [] rfl ?_
    exact hj16 a1
  · refine ge_aload_n 0 DX11_wrongAt_12 rfl ?_
    refine ge_getI DX11_wrongAt_13 fl_X11_156 is_362 (by decide) rfl ?_
    refine ge_sub [] rfl ?_
    exact hj16 (m0 362 30)
abbrev gX11_isNamed (K : Kt) (X : Xt) := GE (R := Int32) K rmX11_isNamed X cX11_isNamed 4 RX11 (some .boolean) (finM K X ιI 0 0)
set_option maxHeartbeats 4000000 in
set_option maxRecDepth 100000 in
theorem lX11_isNamed_L4 (K : Kt) (X : Xt) {k90 : Int32 → Option (Int32 × Mem)} (m1 : Mem) (y2 : Int32)  (hk90 : ∀ (x5 : Int32), gX11_isNamed K X 0 0 90 [(2, .int x5)] [] m1 (k90 x5)) :
    ∀ (n : Nat) (x3 : Int32) (x4 : Int32), gX11_isNamed K X 0 0 4 [(0, .ref (xad X 362)), (1, .int y2), (2, .int x3), (3, .int x4)] [] m1 (fX11_isNamed_L4 k90 m1 y2 n x3 x4) := by
  intro n
  induction n with
  | zero => intro x3 x4; exact ge_none
  | succ n ih =>
    intro x3 x4
    show gX11_isNamed K X 0 0 4 [(0, .ref (xad X 362)), (1, .int y2), (2, .int x3), (3, .int x4)] [] m1 (fX11_isNamed_L4_b k90 m1 y2 (fX11_isNamed_L4 k90 m1 y2 n) x3 x4)
    delta fX11_isNamed_L4_b
    refine ge_iload_n 3 DX11_isNamed_4 rfl ?_
    refine ge_iload_n 1 DX11_isNamed_5 rfl ?_
    refine ge_icmp_ge (tgt := 90) DX11_isNamed_6 (by decide) ?_ ?_
    · refine ge_iload_n 2 DX11_isNamed_9 rfl ?_
      refine ge_jn (P := fun k => ∀ (v7 : Int32), gX11_isNamed K X 0 0 83 [(0, .ref (xad X 362)), (1, .int y2), (3, .int x4)] [.int v7] m1 (k v7)) (fun v7 => ?_) (fun j83 hj83 => ?_)
      · refine ge_istore_n (ls' := [(2, .int v7), (0, .ref (xad X 362)), (1, .int y2), (3, .int x4)]) DX11_isNamed_83 (by decide) rfl ?_
        refine ge_iinc 3 (v := (x4 + (1 : Int32))) (ls' := [(3, .int (x4 + (1 : Int32))), (2, .int v7), (0, .ref (xad X 362)), (1, .int y2)]) DX11_isNamed_84 rfl rfl (by decide) rfl ?_
        refine ge_goto (tgt := 4) DX11_isNamed_87 (by decide) ?_
        refine ge_sub [2, 3, 1, 0] rfl ?_
        exact ih v7 (x4 + (1 : Int32))
      refine ge_jn (P := fun k => gX11_isNamed K X 0 0 78 [(0, .ref (xad X 362)), (1, .int y2), (3, .int x4)] [] m1 k) ?_ (fun j78 hj78 => ?_)
      · refine ge_iconst (v := (1 : Int32)) DX11_isNamed_78 rfl ?_
        refine ge_goto (tgt := 83) DX11_isNamed_79 (by decide) ?_
        exact hj83 (1 : Int32)
      refine ge_if_ne (tgt := 78) DX11_isNamed_10 (by decide) ?_ ?_
      · refine ge_aload_n 0 DX11_isNamed_13 rfl ?_
        refine ge_getR (i := 365) DX11_isNamed_14 fl_X11_16 is_362 (by decide) rfl ?_
        refine ge_iconst (v := (3 : Int32)) DX11_isNamed_17 rfl ?_
        refine ge_iload_n 3 DX11_isNamed_18 rfl ?_
        refine ge_imul DX11_isNamed_19 ?_
        refine ge_iald DX11_isNamed_20 is_365 al_365 ?_
        refine ge_aload_n 0 DX11_isNamed_21 rfl ?_
        refine ge_getR (i := 365) DX11_isNamed_22 fl_X11_16 is_362 (by decide) rfl ?_
        refine ge_iconst (v := (3 : Int32)) DX11_isNamed_25 rfl ?_
        refine ge_iload_n 1 DX11_isNamed_26 rfl ?_
        refine ge_imul DX11_isNamed_27 ?_
        refine ge_iald DX11_isNamed_28 is_365 al_365 ?_
        refine ge_jn (P := fun k => gX11_isNamed K X 0 0 82 [(0, .ref (xad X 362)), (1, .int y2), (3, .int x4)] [] m1 k) ?_ (fun j82 hj82 => ?_)
        · refine ge_iconst (v := (0 : Int32)) DX11_isNamed_82 rfl ?_
          exact hj83 (0 : Int32)
        refine ge_icmp_ne (tgt := 82) DX11_isNamed_29 (by decide) ?_ ?_
        · refine ge_aload_n 0 DX11_isNamed_32 rfl ?_
          refine ge_getR (i := 365) DX11_isNamed_33 fl_X11_16 is_362 (by decide) rfl ?_
          refine ge_iconst (v := (3 : Int32)) DX11_isNamed_36 rfl ?_
          refine ge_iload_n 3 DX11_isNamed_37 rfl ?_
          refine ge_imul DX11_isNamed_38 ?_
          refine ge_iconst (v := (1 : Int32)) DX11_isNamed_39 rfl ?_
          refine ge_iadd DX11_isNamed_40 ?_
          refine ge_iald DX11_isNamed_41 is_365 al_365 ?_
          refine ge_aload_n 0 DX11_isNamed_42 rfl ?_
          refine ge_getR (i := 365) DX11_isNamed_43 fl_X11_16 is_362 (by decide) rfl ?_
          refine ge_iconst (v := (3 : Int32)) DX11_isNamed_46 rfl ?_
          refine ge_iload_n 1 DX11_isNamed_47 rfl ?_
          refine ge_imul DX11_isNamed_48 ?_
          refine ge_iconst (v := (1 : Int32)) DX11_isNamed_49 rfl ?_
          refine ge_iadd DX11_isNamed_50 ?_
          refine ge_iald DX11_isNamed_51 is_365 al_365 ?_
          refine ge_icmp_ne (tgt := 82) DX11_isNamed_52 (by decide) ?_ ?_
          · refine ge_aload_n 0 DX11_isNamed_55 rfl ?_
            refine ge_getR (i := 365) DX11_isNamed_56 fl_X11_16 is_362 (by decide) rfl ?_
            refine ge_iconst (v := (3 : Int32)) DX11_isNamed_59 rfl ?_
            refine ge_iload_n 3 DX11_isNamed_60 rfl ?_
            refine ge_imul DX11_isNamed_61 ?_
            refine ge_iconst (v := (2 : Int32)) DX11_isNamed_62 rfl ?_
            refine ge_iadd DX11_isNamed_63 ?_
            refine ge_iald DX11_isNamed_64 is_365 al_365 ?_
            refine ge_aload_n 0 DX11_isNamed_65 rfl ?_
            refine ge_getR (i := 365) DX11_isNamed_66 fl_X11_16 is_362 (by decide) rfl ?_
            refine ge_iconst (v := (3 : Int32)) DX11_isNamed_69 rfl ?_
            refine ge_iload_n 1 DX11_isNamed_70 rfl ?_
            refine ge_imul DX11_isNamed_71 ?_
            refine ge_iconst (v := (2 : Int32)) DX11_isNamed_72 rfl ?_
            refine ge_iadd DX11_isNamed_73 ?_
            refine ge_iald DX11_isNamed_74 is_365 al_365 ?_
            refine ge_icmp_ne (tgt := 82) DX11_isNamed_75 (by decide) ?_ ?_
            · refine ge_sub [0, 1, 3] rfl ?_
              exact hj78
            · refine ge_sub [0, 1, 3] rfl ?_
              exact hj82
          · refine ge_sub [0, 1, 3] rfl ?_
            exact hj82
        · refine ge_sub [0, 1, 3] rfl ?_
          exact hj82
      · refine ge_sub [0, 1, 3] rfl ?_
        exact hj78
    · refine ge_sub [2] rfl ?_
      exact hk90 x3
set_option maxHeartbeats 4000000 in
set_option maxRecDepth 100000 in
theorem okX11_isNamed (l : Launch) (X : Xt) (m0 : Mem) (a1 : Int32) : Ct l yX11_isNamed cX11_isNamed 4 (some .boolean) rmX11_isNamed ιI X [.ref (xad X 362), .int a1] m0 (fX11_isNamed m0 a1) := by
  refine ct_of (own := RX11) (ls := [(0, .ref (xad X 362)), (1, .int a1)]) (by decide) rfl rfl (Nat.le_of_ble_eq_true rfl) (fun K => ?_)
  show gX11_isNamed K X 0 0 0 [(0, .ref (xad X 362)), (1, .int a1)] [] m0 (fX11_isNamed m0 a1)
  delta fX11_isNamed
  refine ge_iconst (v := (0 : Int32)) DX11_isNamed_0 rfl ?_
  refine ge_istore_n (ls' := [(2, .int (0 : Int32)), (0, .ref (xad X 362)), (1, .int a1)]) DX11_isNamed_1 (by decide) rfl ?_
  refine ge_iconst (v := (0 : Int32)) DX11_isNamed_2 rfl ?_
  refine ge_istore_n (ls' := [(3, .int (0 : Int32)), (2, .int (0 : Int32)), (0, .ref (xad X 362)), (1, .int a1)]) DX11_isNamed_3 (by decide) rfl ?_
  refine ge_sub [2, 3, 1, 0] rfl ?_
  refine lX11_isNamed_L4 K X m0 a1 (fun x6 => ?_) 5000 (0 : Int32) (0 : Int32)
  · refine ge_iload_n 0 DX11_isNamed_90 rfl ?_
    exact ge_zret rfl DX11_isNamed_91
abbrev gX11_readsName (K : Kt) (X : Xt) := GE (R := Unit) K rmX11_readsName X cX11_readsName 3 RX11 none (finM K X ιV 0 0)
set_option maxHeartbeats 4000000 in
set_option maxRecDepth 100000 in
theorem lX11_readsName_L26 (K : Kt) (X : Xt) {k79 : Mem → Int32 → Option (Unit × Mem)} (y7 : Int32)  (hk79 : ∀ (m9 : Mem) (x10 : Int32), gX11_readsName K X 0 0 79 [(0, .ref (xad X 362)), (1, .int y7), (2, .int x10)] [] m9 (k79 m9 x10)) :
    ∀ (n : Nat) (m6 : Mem) (x8 : Int32), gX11_readsName K X 0 0 26 [(0, .ref (xad X 362)), (1, .int y7), (2, .int x8)] [] m6 (fX11_readsName_L26 k79 y7 n m6 x8) := by
  intro n
  induction n with
  | zero => intro m6 x8; exact ge_none
  | succ n ih =>
    intro m6 x8
    show gX11_readsName K X 0 0 26 [(0, .ref (xad X 362)), (1, .int y7), (2, .int x8)] [] m6 (fX11_readsName_L26_b k79 y7 (fX11_readsName_L26 k79 y7 n) m6 x8)
    delta fX11_readsName_L26_b
    refine ge_iload_n 2 DX11_readsName_26 rfl ?_
    refine ge_iconst (v := (3 : Int32)) DX11_readsName_27 rfl ?_
    refine ge_icmp_ge (tgt := 79) DX11_readsName_28 (by decide) ?_ ?_
    · refine ge_aload_n 0 DX11_readsName_31 rfl ?_
      refine ge_aload_n 0 DX11_readsName_32 rfl ?_
      refine ge_getI DX11_readsName_33 fl_X11_159 is_362 (by decide) rfl ?_
      refine ge_callVi0 (st := []) cm_X11_162 DX11_readsName_36 is_362 rfl (okX11_byteAt (kl K) X m6 (m6 362 27)) rfl rfl (Nat.le_of_ble_eq_true rfl) (by decide) ⟨rfl, rfl⟩ ⟨Nat.zero_le _, Nat.zero_le _⟩ (fun r21 m20 => ?_)
      refine ge_callSi0 (st := []) cm_X11_165 DX11_readsName_39 (okX11_isLetter (kl K) X m20 r21) rfl rfl (Nat.le_of_ble_eq_true rfl) (by decide) ⟨rfl, rfl⟩ ⟨Nat.zero_le _, Nat.zero_le _⟩ (fun r23 m22 => ?_)
      refine ge_if_eq (tgt := 79) DX11_readsName_42 (by decide) ?_ ?_
      · exact hk79 m22 x8
      · refine ge_aload_n 0 DX11_readsName_45 rfl ?_
        refine ge_getR (i := 365) DX11_readsName_46 fl_X11_16 is_362 (by decide) rfl ?_
        refine ge_iconst (v := (3 : Int32)) DX11_readsName_49 rfl ?_
        refine ge_iload_n 1 DX11_readsName_50 rfl ?_
        refine ge_imul DX11_readsName_51 ?_
        refine ge_iload_n 2 DX11_readsName_52 rfl ?_
        refine ge_iadd DX11_readsName_53 ?_
        refine ge_aload_n 0 DX11_readsName_54 rfl ?_
        refine ge_aload_n 0 DX11_readsName_55 rfl ?_
        refine ge_getI DX11_readsName_56 fl_X11_159 is_362 (by decide) rfl ?_
        refine ge_callVi0 (st := [.int (((3 : Int32) * y7) + x8), .ref (xad X 365)]) cm_X11_162 DX11_readsName_59 is_362 rfl (okX11_byteAt (kl K) X m22 (m22 362 27)) rfl rfl (Nat.le_of_ble_eq_true rfl) (by decide) ⟨rfl, rfl⟩ ⟨Nat.zero_le _, Nat.zero_le _⟩ (fun r25 m24 => ?_)
        refine ge_iast DX11_readsName_62 is_365 al_365 (fun m26 => ?_)
        refine ge_iinc 2 (v := (x8 + (1 : Int32))) (ls' := [(2, .int (x8 + (1 : Int32))), (0, .ref (xad X 362)), (1, .int y7)]) DX11_readsName_63 rfl rfl (by decide) rfl ?_
        refine ge_aload_n 1 DX11_readsName_66 rfl ?_
        refine ge_dup DX11_readsName_67 rfl ?_
        refine ge_getI DX11_readsName_68 fl_X11_159 is_362 (by decide) rfl ?_
        refine ge_iconst (v := (1 : Int32)) DX11_readsName_71 rfl ?_
        refine ge_iadd DX11_readsName_72 ?_
        refine ge_put DX11_readsName_73 fp_X11_159 is_362 (by decide) rfl (fun m27 => ?_)
        refine ge_goto (tgt := 26) DX11_readsName_76 (by decide) ?_
        refine ge_sub [1, 2, 0] rfl ?_
        exact ih m27 (x8 + (1 : Int32))
    · exact hk79 m6 x8
set_option maxHeartbeats 4000000 in
set_option maxRecDepth 100000 in
theorem lX11_readsName_L2 (K : Kt) (X : Xt) {k24 : Mem → Option (Unit × Mem)} (y2 : Int32)  (hk24 : ∀ (m4 : Mem), gX11_readsName K X 0 0 24 [(0, .ref (xad X 362)), (1, .int y2)] [] m4 (k24 m4)) :
    ∀ (n : Nat) (m1 : Mem) (x3 : Int32), gX11_readsName K X 0 0 2 [(0, .ref (xad X 362)), (1, .int y2), (2, .int x3)] [] m1 (fX11_readsName_L2 k24 y2 n m1 x3) := by
  intro n
  induction n with
  | zero => intro m1 x3; exact ge_none
  | succ n ih =>
    intro m1 x3
    show gX11_readsName K X 0 0 2 [(0, .ref (xad X 362)), (1, .int y2), (2, .int x3)] [] m1 (fX11_readsName_L2_b k24 y2 (fX11_readsName_L2 k24 y2 n) m1 x3)
    delta fX11_readsName_L2_b
    refine ge_iload_n 2 DX11_readsName_2 rfl ?_
    refine ge_iconst (v := (3 : Int32)) DX11_readsName_3 rfl ?_
    refine ge_icmp_ge (tgt := 24) DX11_readsName_4 (by decide) ?_ ?_
    · refine ge_aload_n 0 DX11_readsName_7 rfl ?_
      refine ge_getR (i := 365) DX11_readsName_8 fl_X11_16 is_362 (by decide) rfl ?_
      refine ge_iconst (v := (3 : Int32)) DX11_readsName_11 rfl ?_
      refine ge_iload_n 1 DX11_readsName_12 rfl ?_
      refine ge_imul DX11_readsName_13 ?_
      refine ge_iload_n 2 DX11_readsName_14 rfl ?_
      refine ge_iadd DX11_readsName_15 ?_
      refine ge_iconst (v := (0 : Int32)) DX11_readsName_16 rfl ?_
      refine ge_iast DX11_readsName_17 is_365 al_365 (fun m28 => ?_)
      refine ge_iinc 2 (v := (x3 + (1 : Int32))) (ls' := [(2, .int (x3 + (1 : Int32))), (0, .ref (xad X 362)), (1, .int y2)]) DX11_readsName_18 rfl rfl (by decide) rfl ?_
      refine ge_goto (tgt := 2) DX11_readsName_21 (by decide) ?_
      refine ge_sub [1, 2, 0] rfl ?_
      exact ih m28 (x3 + (1 : Int32))
    · refine ge_sub [0, 1] rfl ?_
      exact hk24 m1
set_option maxHeartbeats 4000000 in
set_option maxRecDepth 100000 in
theorem okX11_readsName (l : Launch) (X : Xt) (m0 : Mem) (a1 : Int32) : Ct l yX11_readsName cX11_readsName 3 none rmX11_readsName ιV X [.ref (xad X 362), .int a1] m0 (fX11_readsName m0 a1) := by
  refine ct_of (own := RX11) (ls := [(0, .ref (xad X 362)), (1, .int a1)]) (by decide) rfl rfl (Nat.le_of_ble_eq_true rfl) (fun K => ?_)
  show gX11_readsName K X 0 0 0 [(0, .ref (xad X 362)), (1, .int a1)] [] m0 (fX11_readsName m0 a1)
  delta fX11_readsName
  refine ge_iconst (v := (0 : Int32)) DX11_readsName_0 rfl ?_
  refine ge_istore_n (ls' := [(2, .int (0 : Int32)), (0, .ref (xad X 362)), (1, .int a1)]) DX11_readsName_1 (by decide) rfl ?_
  refine ge_sub [1, 2, 0] rfl ?_
  refine lX11_readsName_L2 K X a1 (fun m5 => ?_) 5000 m0 (0 : Int32)
  · refine ge_iconst (v := (0 : Int32)) DX11_readsName_24 rfl ?_
    refine ge_istore_n (ls' := [(2, .int (0 : Int32)), (0, .ref (xad X 362)), (1, .int a1)]) DX11_readsName_25 (by decide) rfl ?_
    refine ge_sub [1, 2, 0] rfl ?_
    refine lX11_readsName_L26 K X a1 (fun m11 x12 => ?_) 5000 m5 (0 : Int32)
    · refine ge_iload_n 2 DX11_readsName_79 rfl ?_
      refine ge_jn (P := fun k => ∀ (m13 : Mem), gX11_readsName K X 0 0 104 [(0, .ref (xad X 362))] [] m13 (k m13)) (fun m13 => ?_) (fun j104 hj104 => ?_)
      · refine ge_aload_n 0 DX11_readsName_104 rfl ?_
        refine ge_aload_n 0 DX11_readsName_105 rfl ?_
        refine ge_getI DX11_readsName_106 fl_X11_159 is_362 (by decide) rfl ?_
        refine ge_callVv0 (st := []) cm_X11_172 DX11_readsName_109 is_362 rfl (okX11_wrongAt (kl K) X m13 (m13 362 27)) rfl rfl (Nat.le_of_ble_eq_true rfl) (by decide) ⟨rfl, rfl⟩ ⟨Nat.zero_le _, Nat.zero_le _⟩ (fun m14 => ?_)
        exact ge_vret rfl DX11_readsName_112
      refine ge_if_eq (tgt := 104) DX11_readsName_80 (by decide) ?_ ?_
      · refine ge_sub [0] rfl ?_
        exact hj104 m11
      · refine ge_aload_n 0 DX11_readsName_83 rfl ?_
        refine ge_aload_n 0 DX11_readsName_84 rfl ?_
        refine ge_getI DX11_readsName_85 fl_X11_159 is_362 (by decide) rfl ?_
        refine ge_callVi0 (st := []) cm_X11_162 DX11_readsName_88 is_362 rfl (okX11_byteAt (kl K) X m11 (m11 362 27)) rfl rfl (Nat.le_of_ble_eq_true rfl) (by decide) ⟨rfl, rfl⟩ ⟨Nat.zero_le _, Nat.zero_le _⟩ (fun r16 m15 => ?_)
        refine ge_bipush (v := (58 : Int32)) DX11_readsName_91 rfl ?_
        refine ge_icmp_ne (tgt := 104) DX11_readsName_93 (by decide) ?_ ?_
        · refine ge_aload_n 0 DX11_readsName_96 rfl ?_
          refine ge_iload_n 1 DX11_readsName_97 rfl ?_
          refine ge_callVi0 (st := []) cm_X11_169 DX11_readsName_98 is_362 rfl (okX11_isNamed (kl K) X m15 a1) rfl rfl (Nat.le_of_ble_eq_true rfl) (by decide) ⟨rfl, rfl⟩ ⟨Nat.zero_le _, Nat.zero_le _⟩ (fun r18 m17 => ?_)
          refine ge_if_eq (tgt := 113) DX11_readsName_101 (by decide) ?_ ?_
          · refine ge_aload_n 0 DX11_readsName_113 rfl ?_
            refine ge_dup DX11_readsName_114 rfl ?_
            refine ge_getI DX11_readsName_115 fl_X11_159 is_362 (by decide) rfl ?_
            refine ge_iconst (v := (1 : Int32)) DX11_readsName_118 rfl ?_
            refine ge_iadd DX11_readsName_119 ?_
            refine ge_put DX11_readsName_120 fp_X11_159 is_362 (by decide) rfl (fun m19 => ?_)
            exact ge_vret rfl DX11_readsName_123
          · refine ge_sub [0] rfl ?_
            exact hj104 m17
        · refine ge_sub [0] rfl ?_
          exact hj104 m15
abbrev gX11_readsPattern (K : Kt) (X : Xt) := GE (R := Unit) K rmX11_readsPattern X cX11_readsPattern 6 RX11 none (finM K X ιV 0 0)
set_option maxHeartbeats 4000000 in
set_option maxRecDepth 100000 in
theorem lX11_readsPattern_L28 (K : Kt) (X : Xt) {k111 : Mem → Option (Unit × Mem)} {k148 : Mem → Option (Unit × Mem)} (y7 : Int32)  (hk111 : ∀ (m9 : Mem), gX11_readsPattern K X 0 0 111 [(0, .ref (xad X 362))] [] m9 (k111 m9)) (hk148 : ∀ (m12 : Mem), gX11_readsPattern K X 0 0 148 [] [] m12 (k148 m12)) :
    ∀ (n : Nat) (m6 : Mem) (x8 : Int32), gX11_readsPattern K X 0 0 28 [(0, .ref (xad X 362)), (1, .int y7), (2, .int x8)] [] m6 (fX11_readsPattern_L28 k111 k148 y7 n m6 x8) := by
  intro n
  induction n with
  | zero => intro m6 x8; exact ge_none
  | succ n ih =>
    intro m6 x8
    show gX11_readsPattern K X 0 0 28 [(0, .ref (xad X 362)), (1, .int y7), (2, .int x8)] [] m6 (fX11_readsPattern_L28_b k111 k148 y7 (fX11_readsPattern_L28 k111 k148 y7 n) m6 x8)
    delta fX11_readsPattern_L28_b
    refine ge_iload_n 2 DX11_readsPattern_28 rfl ?_
    refine ge_bipush (v := (12 : Int32)) DX11_readsPattern_29 rfl ?_
    refine ge_icmp_ge (tgt := 148) DX11_readsPattern_31 (by decide) ?_ ?_
    · refine ge_aload_n 0 DX11_readsPattern_34 rfl ?_
      refine ge_getI DX11_readsPattern_35 fl_X11_156 is_362 (by decide) rfl ?_
      refine ge_if_ge (tgt := 148) DX11_readsPattern_38 (by decide) ?_ ?_
      · refine ge_aload_n 0 DX11_readsPattern_41 rfl ?_
        refine ge_aload_n 0 DX11_readsPattern_42 rfl ?_
        refine ge_getI DX11_readsPattern_43 fl_X11_159 is_362 (by decide) rfl ?_
        refine ge_callVi0 (st := []) cm_X11_162 DX11_readsPattern_46 is_362 rfl (okX11_byteAt (kl K) X m6 (m6 362 27)) rfl rfl (Nat.le_of_ble_eq_true rfl) (by decide) ⟨rfl, rfl⟩ ⟨Nat.zero_le _, Nat.zero_le _⟩ (fun r15 m14 => ?_)
        refine ge_istore_n (ls' := [(3, .int r15), (0, .ref (xad X 362)), (1, .int y7), (2, .int x8)]) DX11_readsPattern_49 (by decide) rfl ?_
        refine ge_iload_n 0 DX11_readsPattern_50 rfl ?_
        refine ge_callSi0 (st := []) cm_X11_96 DX11_readsPattern_51 (okX11_letterOf (kl K) X m14 r15) rfl rfl (Nat.le_of_ble_eq_true rfl) (by decide) ⟨rfl, rfl⟩ ⟨Nat.zero_le _, Nat.zero_le _⟩ (fun r17 m16 => ?_)
        refine ge_istore (ls' := [(4, .int r17), (3, .int r15), (0, .ref (xad X 362)), (1, .int y7), (2, .int x8)]) DX11_readsPattern_54 (by decide) rfl ?_
        refine ge_iload_n 1 DX11_readsPattern_56 rfl ?_
        refine ge_bipush (v := (48 : Int32)) DX11_readsPattern_57 rfl ?_
        refine ge_jn (P := fun k => ∀ (v18 : Int32), gX11_readsPattern K X 0 0 84 [(0, .ref (xad X 362)), (1, .int y7), (2, .int x8), (3, .int r15), (4, .int r17)] [.int v18] m16 (k v18)) (fun v18 => ?_) (fun j84 hj84 => ?_)
        · refine ge_istore (ls' := [(5, .int v18), (0, .ref (xad X 362)), (1, .int y7), (2, .int x8), (3, .int r15), (4, .int r17)]) DX11_readsPattern_84 (by decide) rfl ?_
          refine ge_iload 0 DX11_readsPattern_86 rfl ?_
          refine ge_if_eq (tgt := 111) DX11_readsPattern_88 (by decide) ?_ ?_
          · refine ge_sub [1] rfl ?_
            exact hk111 m16
          · refine ge_iload 5 DX11_readsPattern_91 rfl ?_
            refine ge_jn (P := fun k => ∀ (m19 : Mem), gX11_readsPattern K X 0 0 120 [(0, .ref (xad X 362)), (1, .int y7), (2, .int x8), (3, .int r15)] [] m19 (k m19)) (fun m19 => ?_) (fun j120 hj120 => ?_)
            · refine ge_aload_n 0 DX11_readsPattern_120 rfl ?_
              refine ge_getR (i := 366) DX11_readsPattern_121 fl_X11_19 is_362 (by decide) rfl ?_
              refine ge_bipush (v := (12 : Int32)) DX11_readsPattern_124 rfl ?_
              refine ge_iload_n 1 DX11_readsPattern_126 rfl ?_
              refine ge_imul DX11_readsPattern_127 ?_
              refine ge_iload_n 2 DX11_readsPattern_128 rfl ?_
              refine ge_iadd DX11_readsPattern_129 ?_
              refine ge_iload_n 3 DX11_readsPattern_130 rfl ?_
              refine ge_iast DX11_readsPattern_131 is_366 al_366 (fun m20 => ?_)
              refine ge_aload_n 0 DX11_readsPattern_132 rfl ?_
              refine ge_dup DX11_readsPattern_133 rfl ?_
              refine ge_getI DX11_readsPattern_134 fl_X11_159 is_362 (by decide) rfl ?_
              refine ge_iconst (v := (1 : Int32)) DX11_readsPattern_137 rfl ?_
              refine ge_iadd DX11_readsPattern_138 ?_
              refine ge_put DX11_readsPattern_139 fp_X11_159 is_362 (by decide) rfl (fun m21 => ?_)
              refine ge_iinc 2 (v := (x8 + (1 : Int32))) (ls' := [(2, .int (x8 + (1 : Int32))), (0, .ref (xad X 362)), (1, .int y7), (3, .int r15)]) DX11_readsPattern_142 rfl rfl (by decide) rfl ?_
              refine ge_goto (tgt := 28) DX11_readsPattern_145 (by decide) ?_
              refine ge_sub [1, 2, 0] rfl ?_
              exact ih m21 (x8 + (1 : Int32))
            refine ge_if_lt (tgt := 120) DX11_readsPattern_93 (by decide) ?_ ?_
            · refine ge_sub [1, 2, 3, 4] rfl ?_
              exact hj120 m16
            · refine ge_aload_n 1 DX11_readsPattern_96 rfl ?_
              refine ge_iload_n 2 DX11_readsPattern_97 rfl ?_
              refine ge_iload 5 DX11_readsPattern_98 rfl ?_
              refine ge_callVi0 (st := []) cm_X11_93 DX11_readsPattern_100 is_362 rfl (okX11_bitsOf (kl K) X m16 y7 r17) rfl rfl (Nat.le_of_ble_eq_true rfl) (by decide) ⟨rfl, rfl⟩ ⟨Nat.zero_le _, Nat.zero_le _⟩ (fun r23 m22 => ?_)
              refine ge_callSi0 (st := []) cm_X11_104 DX11_readsPattern_103 (okX11_size (kl K) X m22 r23) rfl rfl (Nat.le_of_ble_eq_true rfl) (by decide) ⟨rfl, rfl⟩ ⟨Nat.zero_le _, Nat.zero_le _⟩ (fun r25 m24 => ?_)
              refine ge_bipush (v := (8 : Int32)) DX11_readsPattern_106 rfl ?_
              refine ge_icmp_ne (tgt := 120) DX11_readsPattern_108 (by decide) ?_ ?_
              · refine ge_sub [1] rfl ?_
                exact hk111 m24
              · refine ge_sub [1, 2, 3, 4] rfl ?_
                exact hj120 m24
        refine ge_jn (P := fun k => gX11_readsPattern K X 0 0 79 [(0, .ref (xad X 362)), (1, .int y7), (2, .int x8), (3, .int r15), (4, .int r17)] [] m16 k) ?_ (fun j79 hj79 => ?_)
        · refine ge_iconst (v := (1 : Int32)) DX11_readsPattern_79 rfl ?_
          refine ge_goto (tgt := 84) DX11_readsPattern_80 (by decide) ?_
          exact hj84 (1 : Int32)
        refine ge_icmp_eq (tgt := 79) DX11_readsPattern_59 (by decide) ?_ ?_
        · refine ge_sub [2, 3, 4, 1, 0] rfl ?_
          exact hj79
        · refine ge_iload_n 1 DX11_readsPattern_62 rfl ?_
          refine ge_bipush (v := (49 : Int32)) DX11_readsPattern_63 rfl ?_
          refine ge_icmp_eq (tgt := 79) DX11_readsPattern_65 (by decide) ?_ ?_
          · refine ge_sub [2, 3, 4, 1, 0] rfl ?_
            exact hj79
          · refine ge_iload_n 1 DX11_readsPattern_68 rfl ?_
            refine ge_bipush (v := (46 : Int32)) DX11_readsPattern_69 rfl ?_
            refine ge_icmp_eq (tgt := 79) DX11_readsPattern_71 (by decide) ?_ ?_
            · refine ge_sub [2, 3, 4, 1, 0] rfl ?_
              exact hj79
            · refine ge_iload 0 DX11_readsPattern_74 rfl ?_
              refine ge_if_lt (tgt := 83) DX11_readsPattern_76 (by decide) ?_ ?_
              · refine ge_iconst (v := (0 : Int32)) DX11_readsPattern_83 rfl ?_
                refine ge_sub [2, 3, 4, 1, 0] rfl ?_
                exact hj84 (0 : Int32)
              · refine ge_sub [2, 3, 4, 1, 0] rfl ?_
                exact hj79
      · refine ge_sub [] rfl ?_
        exact hk148 m6
    · refine ge_sub [] rfl ?_
      exact hk148 m6
set_option maxHeartbeats 4000000 in
set_option maxRecDepth 100000 in
theorem lX11_readsPattern_L2 (K : Kt) (X : Xt) {k26 : Mem → Option (Unit × Mem)} (y2 : Int32)  (hk26 : ∀ (m4 : Mem), gX11_readsPattern K X 0 0 26 [(0, .ref (xad X 362)), (1, .int y2)] [] m4 (k26 m4)) :
    ∀ (n : Nat) (m1 : Mem) (x3 : Int32), gX11_readsPattern K X 0 0 2 [(0, .ref (xad X 362)), (1, .int y2), (2, .int x3)] [] m1 (fX11_readsPattern_L2 k26 y2 n m1 x3) := by
  intro n
  induction n with
  | zero => intro m1 x3; exact ge_none
  | succ n ih =>
    intro m1 x3
    show gX11_readsPattern K X 0 0 2 [(0, .ref (xad X 362)), (1, .int y2), (2, .int x3)] [] m1 (fX11_readsPattern_L2_b k26 y2 (fX11_readsPattern_L2 k26 y2 n) m1 x3)
    delta fX11_readsPattern_L2_b
    refine ge_iload_n 2 DX11_readsPattern_2 rfl ?_
    refine ge_bipush (v := (12 : Int32)) DX11_readsPattern_3 rfl ?_
    refine ge_icmp_ge (tgt := 26) DX11_readsPattern_5 (by decide) ?_ ?_
    · refine ge_aload_n 0 DX11_readsPattern_8 rfl ?_
      refine ge_getR (i := 366) DX11_readsPattern_9 fl_X11_19 is_362 (by decide) rfl ?_
      refine ge_bipush (v := (12 : Int32)) DX11_readsPattern_12 rfl ?_
      refine ge_iload_n 1 DX11_readsPattern_14 rfl ?_
      refine ge_imul DX11_readsPattern_15 ?_
      refine ge_iload_n 2 DX11_readsPattern_16 rfl ?_
      refine ge_iadd DX11_readsPattern_17 ?_
      refine ge_iconst (v := (0 : Int32)) DX11_readsPattern_18 rfl ?_
      refine ge_iast DX11_readsPattern_19 is_366 al_366 (fun m26 => ?_)
      refine ge_iinc 2 (v := (x3 + (1 : Int32))) (ls' := [(2, .int (x3 + (1 : Int32))), (0, .ref (xad X 362)), (1, .int y2)]) DX11_readsPattern_20 rfl rfl (by decide) rfl ?_
      refine ge_goto (tgt := 2) DX11_readsPattern_23 (by decide) ?_
      refine ge_sub [1, 2, 0] rfl ?_
      exact ih m26 (x3 + (1 : Int32))
    · refine ge_sub [0, 1] rfl ?_
      exact hk26 m1
set_option maxHeartbeats 4000000 in
set_option maxRecDepth 100000 in
theorem okX11_readsPattern (l : Launch) (X : Xt) (m0 : Mem) (a1 : Int32) : Ct l yX11_readsPattern cX11_readsPattern 6 none rmX11_readsPattern ιV X [.ref (xad X 362), .int a1] m0 (fX11_readsPattern m0 a1) := by
  refine ct_of (own := RX11) (ls := [(0, .ref (xad X 362)), (1, .int a1)]) (by decide) rfl rfl (Nat.le_of_ble_eq_true rfl) (fun K => ?_)
  show gX11_readsPattern K X 0 0 0 [(0, .ref (xad X 362)), (1, .int a1)] [] m0 (fX11_readsPattern m0 a1)
  delta fX11_readsPattern
  refine ge_iconst (v := (0 : Int32)) DX11_readsPattern_0 rfl ?_
  refine ge_istore_n (ls' := [(2, .int (0 : Int32)), (0, .ref (xad X 362)), (1, .int a1)]) DX11_readsPattern_1 (by decide) rfl ?_
  refine ge_sub [1, 2, 0] rfl ?_
  refine lX11_readsPattern_L2 K X a1 (fun m5 => ?_) 5000 m0 (0 : Int32)
  · refine ge_iconst (v := (0 : Int32)) DX11_readsPattern_26 rfl ?_
    refine ge_istore_n (ls' := [(2, .int (0 : Int32)), (0, .ref (xad X 362)), (1, .int a1)]) DX11_readsPattern_27 (by decide) rfl ?_
    refine ge_sub [1, 2, 0] rfl ?_
    refine lX11_readsPattern_L28 K X a1 (fun m10 => ?_) (fun m13 => ?_) 5000 m5 (0 : Int32)
    · refine ge_aload_n 0 DX11_readsPattern_111 rfl ?_
      refine ge_aload_n 0 DX11_readsPattern_112 rfl ?_
      refine ge_getI DX11_readsPattern_113 fl_X11_159 is_362 (by decide) rfl ?_
      refine ge_callVv0 (st := []) cm_X11_172 DX11_readsPattern_116 is_362 rfl (okX11_wrongAt (kl K) X m10 (m10 362 27)) rfl rfl (Nat.le_of_ble_eq_true rfl) (by decide) ⟨rfl, rfl⟩ ⟨Nat.zero_le _, Nat.zero_le _⟩ (fun m11 => ?_)
      exact ge_vret rfl DX11_readsPattern_119
    · exact ge_vret rfl DX11_readsPattern_148
abbrev gX11_readsRuleLetter (K : Kt) (X : Xt) := GE (R := Int32) K rmX11_readsRuleLetter X cX11_readsRuleLetter 3 RX11 (some .int) (finM K X ιI 0 0)
set_option maxHeartbeats 4000000 in
set_option maxRecDepth 100000 in
theorem okX11_readsRuleLetter (l : Launch) (X : Xt) (m0 : Mem) (a1 : Int32) : Ct l yX11_readsRuleLetter cX11_readsRuleLetter 3 (some .int) rmX11_readsRuleLetter ιI X [.ref (xad X 362), .int a1] m0 (fX11_readsRuleLetter m0 a1) := by
  refine ct_of (own := RX11) (ls := [(0, .ref (xad X 362)), (1, .int a1)]) (by decide) rfl rfl (Nat.le_of_ble_eq_true rfl) (fun K => ?_)
  show gX11_readsRuleLetter K X 0 0 0 [(0, .ref (xad X 362)), (1, .int a1)] [] m0 (fX11_readsRuleLetter m0 a1)
  delta fX11_readsRuleLetter
  refine ge_aload_n 0 DX11_readsRuleLetter_0 rfl ?_
  refine ge_aload_n 0 DX11_readsRuleLetter_1 rfl ?_
  refine ge_getI DX11_readsRuleLetter_2 fl_X11_159 is_362 (by decide) rfl ?_
  refine ge_callVi0 (st := []) cm_X11_162 DX11_readsRuleLetter_5 is_362 rfl (okX11_byteAt (kl K) X m0 (m0 362 27)) rfl rfl (Nat.le_of_ble_eq_true rfl) (by decide) ⟨rfl, rfl⟩ ⟨Nat.zero_le _, Nat.zero_le _⟩ (fun r2 m1 => ?_)
  refine ge_callSi0 (st := []) cm_X11_96 DX11_readsRuleLetter_8 (okX11_letterOf (kl K) X m1 r2) rfl rfl (Nat.le_of_ble_eq_true rfl) (by decide) ⟨rfl, rfl⟩ ⟨Nat.zero_le _, Nat.zero_le _⟩ (fun r4 m3 => ?_)
  refine ge_istore_n (ls' := [(2, .int r4), (0, .ref (xad X 362)), (1, .int a1)]) DX11_readsRuleLetter_11 (by decide) rfl ?_
  refine ge_iload_n 0 DX11_readsRuleLetter_12 rfl ?_
  refine ge_jn (P := fun k => ∀ (m5 : Mem), gX11_readsRuleLetter K X 0 0 25 [(0, .ref (xad X 362))] [] m5 (k m5)) (fun m5 => ?_) (fun j25 hj25 => ?_)
  · refine ge_aload_n 0 DX11_readsRuleLetter_25 rfl ?_
    refine ge_aload_n 0 DX11_readsRuleLetter_26 rfl ?_
    refine ge_getI DX11_readsRuleLetter_27 fl_X11_159 is_362 (by decide) rfl ?_
    refine ge_callVv0 (st := []) cm_X11_172 DX11_readsRuleLetter_30 is_362 rfl (okX11_wrongAt (kl K) X m5 (m5 362 27)) rfl rfl (Nat.le_of_ble_eq_true rfl) (by decide) ⟨rfl, rfl⟩ ⟨Nat.zero_le _, Nat.zero_le _⟩ (fun m6 => ?_)
    refine ge_iconst (v := (0 : Int32)) DX11_readsRuleLetter_33 rfl ?_
    exact ge_iret rfl DX11_readsRuleLetter_34
  refine ge_if_lt (tgt := 25) DX11_readsRuleLetter_13 (by decide) ?_ ?_
  · refine ge_sub [1] rfl ?_
    exact hj25 m3
  · refine ge_aload_n 1 DX11_readsRuleLetter_16 rfl ?_
    refine ge_iload_n 2 DX11_readsRuleLetter_17 rfl ?_
    refine ge_iload_n 0 DX11_readsRuleLetter_18 rfl ?_
    refine ge_callVi0 (st := []) cm_X11_93 DX11_readsRuleLetter_19 is_362 rfl (okX11_bitsOf (kl K) X m3 a1 r4) rfl rfl (Nat.le_of_ble_eq_true rfl) (by decide) ⟨rfl, rfl⟩ ⟨Nat.zero_le _, Nat.zero_le _⟩ (fun r8 m7 => ?_)
    refine ge_if_ne (tgt := 35) DX11_readsRuleLetter_22 (by decide) ?_ ?_
    · refine ge_sub [1] rfl ?_
      exact hj25 m7
    · refine ge_aload_n 1 DX11_readsRuleLetter_35 rfl ?_
      refine ge_dup DX11_readsRuleLetter_36 rfl ?_
      refine ge_getI DX11_readsRuleLetter_37 fl_X11_159 is_362 (by decide) rfl ?_
      refine ge_iconst (v := (1 : Int32)) DX11_readsRuleLetter_40 rfl ?_
      refine ge_iadd DX11_readsRuleLetter_41 ?_
      refine ge_put DX11_readsRuleLetter_42 fp_X11_159 is_362 (by decide) rfl (fun m9 => ?_)
      refine ge_iload_n 0 DX11_readsRuleLetter_45 rfl ?_
      exact ge_iret rfl DX11_readsRuleLetter_46
abbrev gX11_readsNumber (K : Kt) (X : Xt) := GE (R := Int32) K rmX11_readsNumber X cX11_readsNumber 5 RX11 (some .int) (finM K X ιI 0 0)
set_option maxHeartbeats 4000000 in
set_option maxRecDepth 100000 in
theorem lX11_readsNumber_L8 (K : Kt) (X : Xt) {k64 : Mem → Int32 → Option (Int32 × Mem)} (y3 : Int32) (y4 : Int32) (y5 : Int32)  (hk64 : ∀ (m7 : Mem) (x8 : Int32), gX11_readsNumber K X 0 0 64 [(0, .ref (xad X 362)), (1, .int y3), (2, .int y4), (3, .int y5), (4, .int x8)] [] m7 (k64 m7 x8)) :
    ∀ (n : Nat) (m2 : Mem) (x6 : Int32), gX11_readsNumber K X 0 0 8 [(0, .ref (xad X 362)), (1, .int y3), (2, .int y4), (3, .int y5), (4, .int x6)] [] m2 (fX11_readsNumber_L8 k64 y3 y4 y5 n m2 x6) := by
  intro n
  induction n with
  | zero => intro m2 x6; exact ge_none
  | succ n ih =>
    intro m2 x6
    show gX11_readsNumber K X 0 0 8 [(0, .ref (xad X 362)), (1, .int y3), (2, .int y4), (3, .int y5), (4, .int x6)] [] m2 (fX11_readsNumber_L8_b k64 y3 y4 y5 (fX11_readsNumber_L8 k64 y3 y4 y5 n) m2 x6)
    delta fX11_readsNumber_L8_b
    refine ge_aload_n 0 DX11_readsNumber_8 rfl ?_
    refine ge_getI DX11_readsNumber_9 fl_X11_159 is_362 (by decide) rfl ?_
    refine ge_iload_n 3 DX11_readsNumber_12 rfl ?_
    refine ge_iconst (v := (3 : Int32)) DX11_readsNumber_13 rfl ?_
    refine ge_iadd DX11_readsNumber_14 ?_
    refine ge_icmp_ge (tgt := 64) DX11_readsNumber_15 (by decide) ?_ ?_
    · refine ge_aload_n 0 DX11_readsNumber_18 rfl ?_
      refine ge_aload_n 0 DX11_readsNumber_19 rfl ?_
      refine ge_getI DX11_readsNumber_20 fl_X11_159 is_362 (by decide) rfl ?_
      refine ge_callVi0 (st := []) cm_X11_162 DX11_readsNumber_23 is_362 rfl (okX11_byteAt (kl K) X m2 (m2 362 27)) rfl rfl (Nat.le_of_ble_eq_true rfl) (by decide) ⟨rfl, rfl⟩ ⟨Nat.zero_le _, Nat.zero_le _⟩ (fun r16 m15 => ?_)
      refine ge_callSi0 (st := []) cm_X11_176 DX11_readsNumber_26 (okX11_isDigit (kl K) X m15 r16) rfl rfl (Nat.le_of_ble_eq_true rfl) (by decide) ⟨rfl, rfl⟩ ⟨Nat.zero_le _, Nat.zero_le _⟩ (fun r18 m17 => ?_)
      refine ge_if_eq (tgt := 64) DX11_readsNumber_29 (by decide) ?_ ?_
      · exact hk64 m17 x6
      · refine ge_bipush (v := (10 : Int32)) DX11_readsNumber_32 rfl ?_
        refine ge_iload 4 DX11_readsNumber_34 rfl ?_
        refine ge_imul DX11_readsNumber_36 ?_
        refine ge_aload_n 0 DX11_readsNumber_37 rfl ?_
        refine ge_aload_n 0 DX11_readsNumber_38 rfl ?_
        refine ge_getI DX11_readsNumber_39 fl_X11_159 is_362 (by decide) rfl ?_
        refine ge_callVi0 (st := [.int ((10 : Int32) * x6)]) cm_X11_162 DX11_readsNumber_42 is_362 rfl (okX11_byteAt (kl K) X m17 (m17 362 27)) rfl rfl (Nat.le_of_ble_eq_true rfl) (by decide) ⟨rfl, rfl⟩ ⟨Nat.zero_le _, Nat.zero_le _⟩ (fun r20 m19 => ?_)
        refine ge_iadd DX11_readsNumber_45 ?_
        refine ge_bipush (v := (48 : Int32)) DX11_readsNumber_46 rfl ?_
        refine ge_isub DX11_readsNumber_48 ?_
        refine ge_topi (fun x21 => ?_)
        refine ge_istore (ls' := [(4, .int x21), (0, .ref (xad X 362)), (1, .int y3), (2, .int y4), (3, .int y5)]) DX11_readsNumber_49 (by decide) rfl ?_
        refine ge_aload_n 1 DX11_readsNumber_51 rfl ?_
        refine ge_dup DX11_readsNumber_52 rfl ?_
        refine ge_getI DX11_readsNumber_53 fl_X11_159 is_362 (by decide) rfl ?_
        refine ge_iconst (v := (1 : Int32)) DX11_readsNumber_56 rfl ?_
        refine ge_iadd DX11_readsNumber_57 ?_
        refine ge_put DX11_readsNumber_58 fp_X11_159 is_362 (by decide) rfl (fun m22 => ?_)
        refine ge_goto (tgt := 8) DX11_readsNumber_61 (by decide) ?_
        refine ge_sub [1, 2, 3, 4, 0] rfl ?_
        exact ih m22 x21
    · exact hk64 m2 x6
set_option maxHeartbeats 4000000 in
set_option maxRecDepth 100000 in
theorem okX11_readsNumber (l : Launch) (X : Xt) (m0 : Mem) (a1 : Int32) (a2 : Int32) : Ct l yX11_readsNumber cX11_readsNumber 5 (some .int) rmX11_readsNumber ιI X [.ref (xad X 362), .int a1, .int a2] m0 (fX11_readsNumber m0 a1 a2) := by
  refine ct_of (own := RX11) (ls := [(0, .ref (xad X 362)), (1, .int a1), (2, .int a2)]) (by decide) rfl rfl (Nat.le_of_ble_eq_true rfl) (fun K => ?_)
  show gX11_readsNumber K X 0 0 0 [(0, .ref (xad X 362)), (1, .int a1), (2, .int a2)] [] m0 (fX11_readsNumber m0 a1 a2)
  delta fX11_readsNumber
  refine ge_aload_n 0 DX11_readsNumber_0 rfl ?_
  refine ge_getI DX11_readsNumber_1 fl_X11_159 is_362 (by decide) rfl ?_
  refine ge_topi (fun x1 => ?_)
  refine ge_istore_n (ls' := [(3, .int x1), (0, .ref (xad X 362)), (1, .int a1), (2, .int a2)]) DX11_readsNumber_4 (by decide) rfl ?_
  refine ge_iconst (v := (0 : Int32)) DX11_readsNumber_5 rfl ?_
  refine ge_istore (ls' := [(4, .int (0 : Int32)), (3, .int x1), (0, .ref (xad X 362)), (1, .int a1), (2, .int a2)]) DX11_readsNumber_6 (by decide) rfl ?_
  refine ge_sub [2, 3, 4, 1, 0] rfl ?_
  refine lX11_readsNumber_L8 K X a1 a2 x1 (fun m9 x10 => ?_) 5000 m0 (0 : Int32)
  · refine ge_aload_n 0 DX11_readsNumber_64 rfl ?_
    refine ge_getI DX11_readsNumber_65 fl_X11_159 is_362 (by decide) rfl ?_
    refine ge_iload_n 3 DX11_readsNumber_68 rfl ?_
    refine ge_jn (P := fun k => ∀ (m11 : Mem), gX11_readsNumber K X 0 0 85 [(0, .ref (xad X 362)), (3, .int x1), (4, .int x10)] [] m11 (k m11)) (fun m11 => ?_) (fun j85 hj85 => ?_)
    · refine ge_aload_n 0 DX11_readsNumber_85 rfl ?_
      refine ge_iload_n 1 DX11_readsNumber_86 rfl ?_
      refine ge_callVv0 (st := []) cm_X11_172 DX11_readsNumber_87 is_362 rfl (okX11_wrongAt (kl K) X m11 x1) rfl rfl (Nat.le_of_ble_eq_true rfl) (by decide) ⟨rfl, rfl⟩ ⟨Nat.zero_le _, Nat.zero_le _⟩ (fun m12 => ?_)
      refine ge_iload 2 DX11_readsNumber_90 rfl ?_
      exact ge_iret rfl DX11_readsNumber_92
    refine ge_icmp_eq (tgt := 85) DX11_readsNumber_69 (by decide) ?_ ?_
    · refine ge_sub [0, 3, 4] rfl ?_
      exact hj85 m9
    · refine ge_iload 4 DX11_readsNumber_72 rfl ?_
      refine ge_i2l DX11_readsNumber_74 ?_
      refine ge_iload_n 1 DX11_readsNumber_75 rfl ?_
      refine ge_i2l DX11_readsNumber_76 ?_
      refine ge_iload_n 2 DX11_readsNumber_77 rfl ?_
      refine ge_i2l DX11_readsNumber_78 ?_
      refine ge_callSi0 (st := []) cm_X11_89 DX11_readsNumber_79 (okX11_isIn (kl K) X m9 ((x10).toInt64) ((a1).toInt64) ((a2).toInt64)) rfl rfl (Nat.le_of_ble_eq_true rfl) (by decide) ⟨rfl, rfl⟩ ⟨Nat.zero_le _, Nat.zero_le _⟩ (fun r14 m13 => ?_)
      refine ge_if_ne (tgt := 90) DX11_readsNumber_82 (by decide) ?_ ?_
      · refine ge_sub [0, 3, 4] rfl ?_
        exact hj85 m13
      · refine ge_iload 4 DX11_readsNumber_90 rfl ?_
        exact ge_iret rfl DX11_readsNumber_92
abbrev gX11_readsRule (K : Kt) (X : Xt) := GE (R := Unit) K rmX11_readsRule X cX11_readsRule 4 RX11 none (finM K X ιV 0 0)
set_option maxHeartbeats 4000000 in
set_option maxRecDepth 100000 in
theorem okX11_readsRule (l : Launch) (X : Xt) (m0 : Mem) (a1 : Int32) : Ct l yX11_readsRule cX11_readsRule 4 none rmX11_readsRule ιV X [.ref (xad X 362), .int a1] m0 (fX11_readsRule m0 a1) := by
  refine ct_of (own := RX11) (ls := [(0, .ref (xad X 362)), (1, .int a1)]) (by decide) rfl rfl (Nat.le_of_ble_eq_true rfl) (fun K => ?_)
  show gX11_readsRule K X 0 0 0 [(0, .ref (xad X 362)), (1, .int a1)] [] m0 (fX11_readsRule m0 a1)
  delta fX11_readsRule
  refine ge_aload_n 0 DX11_readsRule_0 rfl ?_
  refine ge_getR (i := 367) DX11_readsRule_1 fl_X11_22 is_362 (by decide) rfl ?_
  refine ge_iload_n 1 DX11_readsRule_4 rfl ?_
  refine ge_iald DX11_readsRule_5 is_367 al_367 ?_
  refine ge_iconst (v := (3 : Int32)) DX11_readsRule_6 rfl ?_
  refine ge_icmp_ne (tgt := 19) DX11_readsRule_7 (by decide) ?_ ?_
  · refine ge_aload_n 0 DX11_readsRule_10 rfl ?_
    refine ge_aload_n 0 DX11_readsRule_11 rfl ?_
    refine ge_getI DX11_readsRule_12 fl_X11_159 is_362 (by decide) rfl ?_
    refine ge_callVv0 (st := []) cm_X11_172 DX11_readsRule_15 is_362 rfl (okX11_wrongAt (kl K) X m0 (m0 362 27)) rfl rfl (Nat.le_of_ble_eq_true rfl) (by decide) ⟨rfl, rfl⟩ ⟨Nat.zero_le _, Nat.zero_le _⟩ (fun m1 => ?_)
    exact ge_vret rfl DX11_readsRule_18
  · refine ge_aload_n 0 DX11_readsRule_19 rfl ?_
    refine ge_dup DX11_readsRule_20 rfl ?_
    refine ge_getI DX11_readsRule_21 fl_X11_159 is_362 (by decide) rfl ?_
    refine ge_iconst (v := (1 : Int32)) DX11_readsRule_24 rfl ?_
    refine ge_iadd DX11_readsRule_25 ?_
    refine ge_put DX11_readsRule_26 fp_X11_159 is_362 (by decide) rfl (fun m2 => ?_)
    refine ge_bipush (v := (9 : Int32)) DX11_readsRule_29 rfl ?_
    refine ge_iload_n 1 DX11_readsRule_31 rfl ?_
    refine ge_imul DX11_readsRule_32 ?_
    refine ge_iconst (v := (3 : Int32)) DX11_readsRule_33 rfl ?_
    refine ge_aload_n 0 DX11_readsRule_34 rfl ?_
    refine ge_getR (i := 367) DX11_readsRule_35 fl_X11_22 is_362 (by decide) rfl ?_
    refine ge_iload_n 1 DX11_readsRule_38 rfl ?_
    refine ge_iald DX11_readsRule_39 is_367 al_367 ?_
    refine ge_imul DX11_readsRule_40 ?_
    refine ge_iadd DX11_readsRule_41 ?_
    refine ge_topi (fun x3 => ?_)
    refine ge_istore_n (ls' := [(2, .int x3), (0, .ref (xad X 362)), (1, .int a1)]) DX11_readsRule_42 (by decide) rfl ?_
    refine ge_aload_n 1 DX11_readsRule_43 rfl ?_
    refine ge_getR (i := 368) DX11_readsRule_44 fl_X11_25 is_362 (by decide) rfl ?_
    refine ge_iload_n 0 DX11_readsRule_47 rfl ?_
    refine ge_iconst (v := (1 : Int32)) DX11_readsRule_48 rfl ?_
    refine ge_iadd DX11_readsRule_49 ?_
    refine ge_aload_n 1 DX11_readsRule_50 rfl ?_
    refine ge_iload_n 2 DX11_readsRule_51 rfl ?_
    refine ge_callVi0 (st := [.int (x3 + (1 : Int32)), .ref (xad X 368)]) cm_X11_179 DX11_readsRule_52 is_362 rfl (okX11_readsRuleLetter (kl K) X m2 a1) rfl rfl (Nat.le_of_ble_eq_true rfl) (by decide) ⟨rfl, rfl⟩ ⟨Nat.zero_le _, Nat.zero_le _⟩ (fun r5 m4 => ?_)
    refine ge_iast DX11_readsRule_55 is_368 al_368 (fun m6 => ?_)
    refine ge_aload_n 1 DX11_readsRule_56 rfl ?_
    refine ge_aload_n 1 DX11_readsRule_57 rfl ?_
    refine ge_getI DX11_readsRule_58 fl_X11_159 is_362 (by decide) rfl ?_
    refine ge_callVi0 (st := []) cm_X11_162 DX11_readsRule_61 is_362 rfl (okX11_byteAt (kl K) X m6 (m6 362 27)) rfl rfl (Nat.le_of_ble_eq_true rfl) (by decide) ⟨rfl, rfl⟩ ⟨Nat.zero_le _, Nat.zero_le _⟩ (fun r8 m7 => ?_)
    refine ge_istore_n (ls' := [(3, .int r8), (2, .int x3), (0, .ref (xad X 362)), (1, .int a1)]) DX11_readsRule_64 (by decide) rfl ?_
    refine ge_aload_n 2 DX11_readsRule_65 rfl ?_
    refine ge_getI DX11_readsRule_66 fl_X11_156 is_362 (by decide) rfl ?_
    refine ge_jn (P := fun k => ∀ (m9 : Mem), gX11_readsRule K X 0 0 98 [(0, .ref (xad X 362)), (1, .int a1), (2, .int x3), (3, .int r8)] [] m9 (k m9)) (fun m9 => ?_) (fun j98 hj98 => ?_)
    · refine ge_aload_n 0 DX11_readsRule_98 rfl ?_
      refine ge_getI DX11_readsRule_99 fl_X11_156 is_362 (by decide) rfl ?_
      refine ge_if_lt (tgt := 106) DX11_readsRule_102 (by decide) ?_ ?_
      · refine ge_aload_n 0 DX11_readsRule_106 rfl ?_
        refine ge_getR (i := 368) DX11_readsRule_107 fl_X11_25 is_362 (by decide) rfl ?_
        refine ge_iload_n 2 DX11_readsRule_110 rfl ?_
        refine ge_iload_n 3 DX11_readsRule_111 rfl ?_
        refine ge_iast DX11_readsRule_112 is_368 al_368 (fun m10 => ?_)
        refine ge_aload_n 0 DX11_readsRule_113 rfl ?_
        refine ge_dup DX11_readsRule_114 rfl ?_
        refine ge_getI DX11_readsRule_115 fl_X11_159 is_362 (by decide) rfl ?_
        refine ge_iconst (v := (1 : Int32)) DX11_readsRule_118 rfl ?_
        refine ge_iadd DX11_readsRule_119 ?_
        refine ge_put DX11_readsRule_120 fp_X11_159 is_362 (by decide) rfl (fun m11 => ?_)
        refine ge_aload_n 0 DX11_readsRule_123 rfl ?_
        refine ge_getR (i := 368) DX11_readsRule_124 fl_X11_25 is_362 (by decide) rfl ?_
        refine ge_iload_n 2 DX11_readsRule_127 rfl ?_
        refine ge_iconst (v := (2 : Int32)) DX11_readsRule_128 rfl ?_
        refine ge_iadd DX11_readsRule_129 ?_
        refine ge_iload_n 3 DX11_readsRule_130 rfl ?_
        refine ge_bipush (v := (60 : Int32)) DX11_readsRule_131 rfl ?_
        refine ge_jn (P := fun k => ∀ (m12 : Mem) (v13 : Int32), gX11_readsRule K X 0 0 168 [(0, .ref (xad X 362)), (1, .int a1)] [.int v13, .int (x3 + (2 : Int32)), .ref (xad X 368)] m12 (k m12 v13)) (fun m12 v13 => ?_) (fun j168 hj168 => ?_)
        · refine ge_iast DX11_readsRule_168 is_368 al_368 (fun m14 => ?_)
          refine ge_aload_n 0 DX11_readsRule_169 rfl ?_
          refine ge_getR (i := 367) DX11_readsRule_170 fl_X11_22 is_362 (by decide) rfl ?_
          refine ge_iload_n 1 DX11_readsRule_173 rfl ?_
          refine ge_dup2 DX11_readsRule_174 rfl rfl ?_
          refine ge_iald DX11_readsRule_175 is_367 al_367 ?_
          refine ge_iconst (v := (1 : Int32)) DX11_readsRule_176 rfl ?_
          refine ge_iadd DX11_readsRule_177 ?_
          refine ge_iast DX11_readsRule_178 is_367 al_367 (fun m15 => ?_)
          exact ge_vret rfl DX11_readsRule_179
        refine ge_icmp_ne (tgt := 144) DX11_readsRule_133 (by decide) ?_ ?_
        · refine ge_aload_n 0 DX11_readsRule_136 rfl ?_
          refine ge_iload_n 1 DX11_readsRule_137 rfl ?_
          refine ge_callVi0 (st := [.int (x3 + (2 : Int32)), .ref (xad X 368)]) cm_X11_179 DX11_readsRule_138 is_362 rfl (okX11_readsRuleLetter (kl K) X m11 a1) rfl rfl (Nat.le_of_ble_eq_true rfl) (by decide) ⟨rfl, rfl⟩ ⟨Nat.zero_le _, Nat.zero_le _⟩ (fun r17 m16 => ?_)
          refine ge_goto (tgt := 168) DX11_readsRule_141 (by decide) ?_
          refine ge_sub [0, 1] rfl ?_
          exact hj168 m16 r17
        · refine ge_iload_n 3 DX11_readsRule_144 rfl ?_
          refine ge_bipush (v := (35 : Int32)) DX11_readsRule_145 rfl ?_
          refine ge_icmp_ne (tgt := 161) DX11_readsRule_147 (by decide) ?_ ?_
          · refine ge_aload_n 0 DX11_readsRule_150 rfl ?_
            refine ge_iconst (v := (0 : Int32)) DX11_readsRule_151 rfl ?_
            refine ge_sipush (v := (255 : Int32)) DX11_readsRule_152 rfl ?_
            refine ge_callVi0 (st := [.int (x3 + (2 : Int32)), .ref (xad X 368)]) cm_X11_182 DX11_readsRule_155 is_362 rfl (okX11_readsNumber (kl K) X m11 (0 : Int32) (255 : Int32)) rfl rfl (Nat.le_of_ble_eq_true rfl) (by decide) ⟨rfl, rfl⟩ ⟨Nat.zero_le _, Nat.zero_le _⟩ (fun r19 m18 => ?_)
            refine ge_goto (tgt := 168) DX11_readsRule_158 (by decide) ?_
            refine ge_sub [0, 1] rfl ?_
            exact hj168 m18 r19
          · refine ge_aload_n 0 DX11_readsRule_161 rfl ?_
            refine ge_iconst (v := (2 : Int32)) DX11_readsRule_162 rfl ?_
            refine ge_bipush (v := (9 : Int32)) DX11_readsRule_163 rfl ?_
            refine ge_callVi0 (st := [.int (x3 + (2 : Int32)), .ref (xad X 368)]) cm_X11_182 DX11_readsRule_165 is_362 rfl (okX11_readsNumber (kl K) X m11 (2 : Int32) (9 : Int32)) rfl rfl (Nat.le_of_ble_eq_true rfl) (by decide) ⟨rfl, rfl⟩ ⟨Nat.zero_le _, Nat.zero_le _⟩ (fun r21 m20 => ?_)
            refine ge_sub [0, 1] rfl ?_
            exact hj168 m20 r21
      · exact ge_vret rfl DX11_readsRule_105
    refine ge_if_ge (tgt := 98) DX11_readsRule_69 (by decide) ?_ ?_
    · refine ge_iload_n 0 DX11_readsRule_72 rfl ?_
      refine ge_bipush (v := (35 : Int32)) DX11_readsRule_73 rfl ?_
      refine ge_icmp_eq (tgt := 98) DX11_readsRule_75 (by decide) ?_ ?_
      · refine ge_sub [2, 3, 1, 0] rfl ?_
        exact hj98 m7
      · refine ge_iload_n 0 DX11_readsRule_78 rfl ?_
        refine ge_bipush (v := (47 : Int32)) DX11_readsRule_79 rfl ?_
        refine ge_icmp_eq (tgt := 98) DX11_readsRule_81 (by decide) ?_ ?_
        · refine ge_sub [2, 3, 1, 0] rfl ?_
          exact hj98 m7
        · refine ge_iload_n 0 DX11_readsRule_84 rfl ?_
          refine ge_bipush (v := (60 : Int32)) DX11_readsRule_85 rfl ?_
          refine ge_icmp_eq (tgt := 98) DX11_readsRule_87 (by decide) ?_ ?_
          · refine ge_sub [2, 3, 1, 0] rfl ?_
            exact hj98 m7
          · refine ge_aload_n 2 DX11_readsRule_90 rfl ?_
            refine ge_aload_n 2 DX11_readsRule_91 rfl ?_
            refine ge_getI DX11_readsRule_92 fl_X11_159 is_362 (by decide) rfl ?_
            refine ge_callVv0 (st := []) cm_X11_172 DX11_readsRule_95 is_362 rfl (okX11_wrongAt (kl K) X m7 (m7 362 27)) rfl rfl (Nat.le_of_ble_eq_true rfl) (by decide) ⟨rfl, rfl⟩ ⟨Nat.zero_le _, Nat.zero_le _⟩ (fun m22 => ?_)
            refine ge_sub [2, 3, 1, 0] rfl ?_
            exact hj98 m22
    · refine ge_sub [2, 3, 1, 0] rfl ?_
      exact hj98 m7
abbrev gX11_readsForm (K : Kt) (X : Xt) := GE (R := Unit) K rmX11_readsForm X cX11_readsForm 3 RX11 none (finM K X ιV 0 0)
set_option maxHeartbeats 4000000 in
set_option maxRecDepth 100000 in
theorem lX11_readsForm_L106 (K : Kt) (X : Xt) {k134 : Mem → Option (Unit × Mem)} (y16 : Int32)  (hk134 : ∀ (m17 : Mem), gX11_readsForm K X 0 0 134 [(0, .ref (xad X 362))] [] m17 (k134 m17)) :
    ∀ (n : Nat) (m15 : Mem), gX11_readsForm K X 0 0 106 [(0, .ref (xad X 362)), (2, .int y16)] [] m15 (fX11_readsForm_L106 k134 y16 n m15) := by
  intro n
  induction n with
  | zero => intro m15; exact ge_none
  | succ n ih =>
    intro m15
    show gX11_readsForm K X 0 0 106 [(0, .ref (xad X 362)), (2, .int y16)] [] m15 (fX11_readsForm_L106_b k134 y16 (fX11_readsForm_L106 k134 y16 n) m15)
    delta fX11_readsForm_L106_b
    refine ge_aload_n 0 DX11_readsForm_106 rfl ?_
    refine ge_getI DX11_readsForm_107 fl_X11_156 is_362 (by decide) rfl ?_
    refine ge_if_ge (tgt := 134) DX11_readsForm_110 (by decide) ?_ ?_
    · refine ge_aload_n 0 DX11_readsForm_113 rfl ?_
      refine ge_aload_n 0 DX11_readsForm_114 rfl ?_
      refine ge_getI DX11_readsForm_115 fl_X11_159 is_362 (by decide) rfl ?_
      refine ge_callVi0 (st := []) cm_X11_162 DX11_readsForm_118 is_362 rfl (okX11_byteAt (kl K) X m15 (m15 362 27)) rfl rfl (Nat.le_of_ble_eq_true rfl) (by decide) ⟨rfl, rfl⟩ ⟨Nat.zero_le _, Nat.zero_le _⟩ (fun r21 m20 => ?_)
      refine ge_bipush (v := (44 : Int32)) DX11_readsForm_121 rfl ?_
      refine ge_icmp_ne (tgt := 134) DX11_readsForm_123 (by decide) ?_ ?_
      · refine ge_aload_n 0 DX11_readsForm_126 rfl ?_
        refine ge_iload_n 1 DX11_readsForm_127 rfl ?_
        refine ge_callVv0 (st := []) cm_X11_197 DX11_readsForm_128 is_362 rfl (okX11_readsRule (kl K) X m20 y16) rfl rfl (Nat.le_of_ble_eq_true rfl) (by decide) ⟨rfl, rfl⟩ ⟨Nat.zero_le _, Nat.zero_le _⟩ (fun m22 => ?_)
        refine ge_goto (tgt := 106) DX11_readsForm_131 (by decide) ?_
        exact ih m22
      · refine ge_sub [0] rfl ?_
        exact hk134 m20
    · refine ge_sub [0] rfl ?_
      exact hk134 m15
set_option maxHeartbeats 4000000 in
set_option maxRecDepth 100000 in
theorem lX11_readsForm_L4 (K : Kt) (X : Xt) {k38 : Mem → Int32 → Option (Unit × Mem)}   (hk38 : ∀ (m4 : Mem) (x5 : Int32), gX11_readsForm K X 0 0 38 [(0, .ref (xad X 362)), (1, .int x5)] [] m4 (k38 m4 x5)) :
    ∀ (n : Nat) (m1 : Mem) (x2 : Int32) (x3 : Int32), gX11_readsForm K X 0 0 4 [(0, .ref (xad X 362)), (1, .int x2), (2, .int x3)] [] m1 (fX11_readsForm_L4 k38  n m1 x2 x3) := by
  intro n
  induction n with
  | zero => intro m1 x2 x3; exact ge_none
  | succ n ih =>
    intro m1 x2 x3
    show gX11_readsForm K X 0 0 4 [(0, .ref (xad X 362)), (1, .int x2), (2, .int x3)] [] m1 (fX11_readsForm_L4_b k38  (fX11_readsForm_L4 k38  n) m1 x2 x3)
    delta fX11_readsForm_L4_b
    refine ge_iload_n 2 DX11_readsForm_4 rfl ?_
    refine ge_bipush (v := (7 : Int32)) DX11_readsForm_5 rfl ?_
    refine ge_icmp_ge (tgt := 38) DX11_readsForm_7 (by decide) ?_ ?_
    · refine ge_gets DX11_readsForm_10 sl_X11_185 ?_
      refine ge_iload_n 2 DX11_readsForm_13 rfl ?_
      refine ge_sald (j := 4) DX11_readsForm_14 (by decide) rfl rfl ?_
      refine ge_aload_n 0 DX11_readsForm_15 rfl ?_
      refine ge_aload_n 0 DX11_readsForm_16 rfl ?_
      refine ge_getI DX11_readsForm_17 fl_X11_159 is_362 (by decide) rfl ?_
      refine ge_callVi0 (st := [.int (sV 4 (ix x3))]) cm_X11_162 DX11_readsForm_20 is_362 rfl (okX11_byteAt (kl K) X m1 (m1 362 27)) rfl rfl (Nat.le_of_ble_eq_true rfl) (by decide) ⟨rfl, rfl⟩ ⟨Nat.zero_le _, Nat.zero_le _⟩ (fun r25 m24 => ?_)
      refine ge_jn (P := fun k => ∀ (v26 : Int32), gX11_readsForm K X 0 0 31 [(0, .ref (xad X 362)), (2, .int x3)] [.int v26] m24 (k v26)) (fun v26 => ?_) (fun j31 hj31 => ?_)
      · refine ge_istore_n (ls' := [(1, .int v26), (0, .ref (xad X 362)), (2, .int x3)]) DX11_readsForm_31 (by decide) rfl ?_
        refine ge_iinc 2 (v := (x3 + (1 : Int32))) (ls' := [(2, .int (x3 + (1 : Int32))), (1, .int v26), (0, .ref (xad X 362))]) DX11_readsForm_32 rfl rfl (by decide) rfl ?_
        refine ge_goto (tgt := 4) DX11_readsForm_35 (by decide) ?_
        refine ge_sub [2, 1, 0] rfl ?_
        exact ih m24 v26 (x3 + (1 : Int32))
      refine ge_icmp_ne (tgt := 30) DX11_readsForm_23 (by decide) ?_ ?_
      · refine ge_iload_n 2 DX11_readsForm_26 rfl ?_
        refine ge_goto (tgt := 31) DX11_readsForm_27 (by decide) ?_
        refine ge_sub [0, 2] rfl ?_
        exact hj31 x3
      · refine ge_iload_n 1 DX11_readsForm_30 rfl ?_
        refine ge_sub [0, 2] rfl ?_
        exact hj31 x2
    · refine ge_sub [0, 1] rfl ?_
      exact hk38 m1 x2
set_option maxHeartbeats 4000000 in
set_option maxRecDepth 100000 in
theorem okX11_readsForm (l : Launch) (X : Xt) (m0 : Mem) : Ct l yX11_readsForm cX11_readsForm 3 none rmX11_readsForm ιV X [.ref (xad X 362)] m0 (fX11_readsForm m0) := by
  refine ct_of (own := RX11) (ls := [(0, .ref (xad X 362))]) (by decide) rfl rfl (Nat.le_of_ble_eq_true rfl) (fun K => ?_)
  show gX11_readsForm K X 0 0 0 [(0, .ref (xad X 362))] [] m0 (fX11_readsForm m0)
  delta fX11_readsForm
  refine ge_iconst (v := (-1 : Int32)) DX11_readsForm_0 rfl ?_
  refine ge_istore_n (ls' := [(1, .int (-1 : Int32)), (0, .ref (xad X 362))]) DX11_readsForm_1 (by decide) rfl ?_
  refine ge_iconst (v := (0 : Int32)) DX11_readsForm_2 rfl ?_
  refine ge_istore_n (ls' := [(2, .int (0 : Int32)), (1, .int (-1 : Int32)), (0, .ref (xad X 362))]) DX11_readsForm_3 (by decide) rfl ?_
  refine ge_sub [2, 1, 0] rfl ?_
  refine lX11_readsForm_L4 K X  (fun m6 x7 => ?_) 5000 m0 (-1 : Int32) (0 : Int32)
  · refine ge_iload_n 1 DX11_readsForm_38 rfl ?_
    refine ge_jn (P := fun k => gX11_readsForm K X 0 0 51 [(0, .ref (xad X 362))] [] m6 k) ?_ (fun j51 hj51 => ?_)
    · refine ge_aload_n 0 DX11_readsForm_51 rfl ?_
      refine ge_aload_n 0 DX11_readsForm_52 rfl ?_
      refine ge_getI DX11_readsForm_53 fl_X11_159 is_362 (by decide) rfl ?_
      refine ge_callVv0 (st := []) cm_X11_172 DX11_readsForm_56 is_362 rfl (okX11_wrongAt (kl K) X m6 (m6 362 27)) rfl rfl (Nat.le_of_ble_eq_true rfl) (by decide) ⟨rfl, rfl⟩ ⟨Nat.zero_le _, Nat.zero_le _⟩ (fun m8 => ?_)
      exact ge_vret rfl DX11_readsForm_59
    refine ge_if_lt (tgt := 51) DX11_readsForm_39 (by decide) ?_ ?_
    · refine ge_sub [0] rfl ?_
      exact hj51
    · refine ge_aload_n 0 DX11_readsForm_42 rfl ?_
      refine ge_getI DX11_readsForm_43 fl_X11_188 is_362 (by decide) rfl ?_
      refine ge_bipush (v := (12 : Int32)) DX11_readsForm_46 rfl ?_
      refine ge_icmp_ne (tgt := 60) DX11_readsForm_48 (by decide) ?_ ?_
      · refine ge_sub [0] rfl ?_
        exact hj51
      · refine ge_aload_n 0 DX11_readsForm_60 rfl ?_
        refine ge_getI DX11_readsForm_61 fl_X11_188 is_362 (by decide) rfl ?_
        refine ge_topi (fun x9 => ?_)
        refine ge_istore_n (ls' := [(2, .int x9), (0, .ref (xad X 362)), (1, .int x7)]) DX11_readsForm_64 (by decide) rfl ?_
        refine ge_aload_n 1 DX11_readsForm_65 rfl ?_
        refine ge_getR (i := 364) DX11_readsForm_66 fl_X11_13 is_362 (by decide) rfl ?_
        refine ge_iload_n 0 DX11_readsForm_69 rfl ?_
        refine ge_iload_n 2 DX11_readsForm_70 rfl ?_
        refine ge_iast DX11_readsForm_71 is_364 al_364 (fun m10 => ?_)
        refine ge_aload_n 1 DX11_readsForm_72 rfl ?_
        refine ge_getR (i := 367) DX11_readsForm_73 fl_X11_22 is_362 (by decide) rfl ?_
        refine ge_iload_n 0 DX11_readsForm_76 rfl ?_
        refine ge_iconst (v := (0 : Int32)) DX11_readsForm_77 rfl ?_
        refine ge_iast DX11_readsForm_78 is_367 al_367 (fun m11 => ?_)
        refine ge_aload_n 1 DX11_readsForm_79 rfl ?_
        refine ge_dup DX11_readsForm_80 rfl ?_
        refine ge_getI DX11_readsForm_81 fl_X11_159 is_362 (by decide) rfl ?_
        refine ge_iconst (v := (1 : Int32)) DX11_readsForm_84 rfl ?_
        refine ge_iadd DX11_readsForm_85 ?_
        refine ge_put DX11_readsForm_86 fp_X11_159 is_362 (by decide) rfl (fun m12 => ?_)
        refine ge_aload_n 1 DX11_readsForm_89 rfl ?_
        refine ge_iload_n 0 DX11_readsForm_90 rfl ?_
        refine ge_callVv0 (st := []) cm_X11_191 DX11_readsForm_91 is_362 rfl (okX11_readsName (kl K) X m12 x9) rfl rfl (Nat.le_of_ble_eq_true rfl) (by decide) ⟨rfl, rfl⟩ ⟨Nat.zero_le _, Nat.zero_le _⟩ (fun m13 => ?_)
        refine ge_aload_n 1 DX11_readsForm_94 rfl ?_
        refine ge_getI DX11_readsForm_95 fl_X11_156 is_362 (by decide) rfl ?_
        refine ge_jn (P := fun k => ∀ (m14 : Mem), gX11_readsForm K X 0 0 106 [(0, .ref (xad X 362)), (2, .int x9)] [] m14 (k m14)) (fun m14 => ?_) (fun j106 hj106 => ?_)
        · refine lX11_readsForm_L106 K X x9 (fun m18 => ?_) 5000 m14
          · refine ge_aload_n 0 DX11_readsForm_134 rfl ?_
            refine ge_dup DX11_readsForm_135 rfl ?_
            refine ge_getI DX11_readsForm_136 fl_X11_188 is_362 (by decide) rfl ?_
            refine ge_iconst (v := (1 : Int32)) DX11_readsForm_139 rfl ?_
            refine ge_iadd DX11_readsForm_140 ?_
            refine ge_put DX11_readsForm_141 fp_X11_188 is_362 (by decide) rfl (fun m19 => ?_)
            exact ge_vret rfl DX11_readsForm_144
        refine ge_if_ge (tgt := 106) DX11_readsForm_98 (by decide) ?_ ?_
        · refine ge_aload_n 1 DX11_readsForm_101 rfl ?_
          refine ge_iload_n 0 DX11_readsForm_102 rfl ?_
          refine ge_callVv0 (st := []) cm_X11_194 DX11_readsForm_103 is_362 rfl (okX11_readsPattern (kl K) X m13 x9) rfl rfl (Nat.le_of_ble_eq_true rfl) (by decide) ⟨rfl, rfl⟩ ⟨Nat.zero_le _, Nat.zero_le _⟩ (fun m23 => ?_)
          refine ge_sub [1, 0] rfl ?_
          exact hj106 m23
        · refine ge_sub [1, 0] rfl ?_
          exact hj106 m13
abbrev gX11_text (K : Kt) (X : Xt) := GE (R := Int32) K rmX11_text X cX11_text 2 RX11 (some .int) (finM K X ιI 0 0)
set_option maxHeartbeats 4000000 in
set_option maxRecDepth 100000 in
theorem lX11_text_L33 (K : Kt) (X : Xt) {k88 : Mem → Option (Int32 × Mem)}   (hk88 : ∀ (m8 : Mem), gX11_text K X 0 0 88 [(0, .ref (xad X 362))] [] m8 (k88 m8)) :
    ∀ (n : Nat) (m6 : Mem) (x7 : Int32), gX11_text K X 0 0 33 [(0, .ref (xad X 362)), (1, .int x7)] [] m6 (fX11_text_L33 k88  n m6 x7) := by
  intro n
  induction n with
  | zero => intro m6 x7; exact ge_none
  | succ n ih =>
    intro m6 x7
    show gX11_text K X 0 0 33 [(0, .ref (xad X 362)), (1, .int x7)] [] m6 (fX11_text_L33_b k88  (fX11_text_L33 k88  n) m6 x7)
    delta fX11_text_L33_b
    refine ge_iload_n 1 DX11_text_33 rfl ?_
    refine ge_if_eq (tgt := 88) DX11_text_34 (by decide) ?_ ?_
    · refine ge_sub [0] rfl ?_
      exact hk88 m6
    · refine ge_aload_n 0 DX11_text_37 rfl ?_
      refine ge_callVv0 (st := []) cm_X11_200 DX11_text_38 is_362 rfl (okX11_readsForm (kl K) X m6) rfl rfl (Nat.le_of_ble_eq_true rfl) (by decide) ⟨rfl, rfl⟩ ⟨Nat.zero_le _, Nat.zero_le _⟩ (fun m13 => ?_)
      refine ge_aload_n 0 DX11_text_41 rfl ?_
      refine ge_getI DX11_text_42 fl_X11_156 is_362 (by decide) rfl ?_
      refine ge_jn (P := fun k => ∀ (m14 : Mem) (v15 : Int32), gX11_text K X 0 0 66 [(0, .ref (xad X 362))] [.int v15] m14 (k m14 v15)) (fun m14 v15 => ?_) (fun j66 hj66 => ?_)
      · refine ge_istore_n (ls' := [(1, .int v15), (0, .ref (xad X 362))]) DX11_text_66 (by decide) rfl ?_
        refine ge_aload_n 1 DX11_text_67 rfl ?_
        refine ge_dup DX11_text_68 rfl ?_
        refine ge_getI DX11_text_69 fl_X11_159 is_362 (by decide) rfl ?_
        refine ge_iload_n 0 DX11_text_72 rfl ?_
        refine ge_jn (P := fun k => ∀ (v16 : Int32), gX11_text K X 0 0 81 [(0, .ref (xad X 362)), (1, .int v15)] [.int v16, .int (m14 362 27), .ref (xad X 362)] m14 (k v16)) (fun v16 => ?_) (fun j81 hj81 => ?_)
        · refine ge_iadd DX11_text_81 ?_
          refine ge_put DX11_text_82 fp_X11_159 is_362 (by decide) rfl (fun m17 => ?_)
          refine ge_goto (tgt := 33) DX11_text_85 (by decide) ?_
          exact ih m17 v15
        refine ge_if_eq (tgt := 80) DX11_text_73 (by decide) ?_ ?_
        · refine ge_iconst (v := (0 : Int32)) DX11_text_80 rfl ?_
          refine ge_sub [1, 0] rfl ?_
          exact hj81 (0 : Int32)
        · refine ge_iconst (v := (1 : Int32)) DX11_text_76 rfl ?_
          refine ge_goto (tgt := 81) DX11_text_77 (by decide) ?_
          refine ge_sub [1, 0] rfl ?_
          exact hj81 (1 : Int32)
      refine ge_jn (P := fun k => ∀ (m18 : Mem), gX11_text K X 0 0 65 [(0, .ref (xad X 362))] [] m18 (k m18)) (fun m18 => ?_) (fun j65 hj65 => ?_)
      · refine ge_iconst (v := (0 : Int32)) DX11_text_65 rfl ?_
        exact hj66 m18 (0 : Int32)
      refine ge_if_ge (tgt := 65) DX11_text_45 (by decide) ?_ ?_
      · refine ge_aload_n 0 DX11_text_48 rfl ?_
        refine ge_aload_n 0 DX11_text_49 rfl ?_
        refine ge_getI DX11_text_50 fl_X11_159 is_362 (by decide) rfl ?_
        refine ge_callVi0 (st := []) cm_X11_162 DX11_text_53 is_362 rfl (okX11_byteAt (kl K) X m13 (m13 362 27)) rfl rfl (Nat.le_of_ble_eq_true rfl) (by decide) ⟨rfl, rfl⟩ ⟨Nat.zero_le _, Nat.zero_le _⟩ (fun r20 m19 => ?_)
        refine ge_bipush (v := (59 : Int32)) DX11_text_56 rfl ?_
        refine ge_icmp_ne (tgt := 65) DX11_text_58 (by decide) ?_ ?_
        · refine ge_iconst (v := (1 : Int32)) DX11_text_61 rfl ?_
          refine ge_goto (tgt := 66) DX11_text_62 (by decide) ?_
          refine ge_sub [0] rfl ?_
          exact hj66 m19 (1 : Int32)
        · refine ge_sub [0] rfl ?_
          exact hj65 m19
      · refine ge_sub [0] rfl ?_
        exact hj65 m13
set_option maxHeartbeats 4000000 in
set_option maxRecDepth 100000 in
theorem okX11_text (l : Launch) (X : Xt) (m0 : Mem) : Ct l yX11_text cX11_text 2 (some .int) rmX11_text ιI X [.ref (xad X 362)] m0 (fX11_text m0) := by
  refine ct_of (own := RX11) (ls := [(0, .ref (xad X 362))]) (by decide) rfl rfl (Nat.le_of_ble_eq_true rfl) (fun K => ?_)
  show gX11_text K X 0 0 0 [(0, .ref (xad X 362))] [] m0 (fX11_text m0)
  delta fX11_text
  refine ge_aload_n 0 DX11_text_0 rfl ?_
  refine ge_aload_n 0 DX11_text_1 rfl ?_
  refine ge_getI DX11_text_2 fl_X11_148 is_362 (by decide) rfl ?_
  refine ge_put DX11_text_5 fp_X11_153 is_362 (by decide) rfl (fun m1 => ?_)
  refine ge_aload_n 0 DX11_text_8 rfl ?_
  refine ge_iconst (v := (0 : Int32)) DX11_text_9 rfl ?_
  refine ge_put DX11_text_10 fp_X11_148 is_362 (by decide) rfl (fun m2 => ?_)
  refine ge_aload_n 0 DX11_text_13 rfl ?_
  refine ge_iconst (v := (0 : Int32)) DX11_text_14 rfl ?_
  refine ge_put DX11_text_15 fp_X11_159 is_362 (by decide) rfl (fun m3 => ?_)
  refine ge_aload_n 0 DX11_text_18 rfl ?_
  refine ge_iconst (v := (-1 : Int32)) DX11_text_19 rfl ?_
  refine ge_put DX11_text_20 fp_X11_156 is_362 (by decide) rfl (fun m4 => ?_)
  refine ge_aload_n 0 DX11_text_23 rfl ?_
  refine ge_aload_n 0 DX11_text_24 rfl ?_
  refine ge_getI DX11_text_25 fl_X11_76 is_362 (by decide) rfl ?_
  refine ge_put DX11_text_28 fp_X11_188 is_362 (by decide) rfl (fun m5 => ?_)
  refine ge_iconst (v := (1 : Int32)) DX11_text_31 rfl ?_
  refine ge_istore_n (ls' := [(1, .int (1 : Int32)), (0, .ref (xad X 362))]) DX11_text_32 (by decide) rfl ?_
  refine ge_sub [1, 0] rfl ?_
  refine lX11_text_L33 K X  (fun m9 => ?_) 5000 m5 (1 : Int32)
  · refine ge_aload_n 0 DX11_text_88 rfl ?_
    refine ge_getI DX11_text_89 fl_X11_156 is_362 (by decide) rfl ?_
    refine ge_jn (P := fun k => ∀ (m10 : Mem), gX11_text K X 0 0 114 [(0, .ref (xad X 362))] [] m10 (k m10)) (fun m10 => ?_) (fun j114 hj114 => ?_)
    · refine ge_aload_n 0 DX11_text_114 rfl ?_
      refine ge_getI DX11_text_115 fl_X11_156 is_362 (by decide) rfl ?_
      refine ge_if_lt (tgt := 129) DX11_text_118 (by decide) ?_ ?_
      · refine ge_aload_n 0 DX11_text_129 rfl ?_
        refine ge_aload_n 0 DX11_text_130 rfl ?_
        refine ge_getI DX11_text_131 fl_X11_188 is_362 (by decide) rfl ?_
        refine ge_callVv0 (st := []) cm_X11_203 DX11_text_134 is_362 rfl (okX11_newForms (kl K) X m10 (m10 362 29)) rfl rfl (Nat.le_of_ble_eq_true rfl) (by decide) ⟨rfl, rfl⟩ ⟨Nat.zero_le _, Nat.zero_le _⟩ (fun m11 => ?_)
        refine ge_aload_n 0 DX11_text_137 rfl ?_
        refine ge_getI DX11_text_138 fl_X11_76 is_362 (by decide) rfl ?_
        exact ge_iret rfl DX11_text_141
      · refine ge_bipush (v := (-10 : Int32)) DX11_text_121 rfl ?_
        refine ge_aload_n 0 DX11_text_123 rfl ?_
        refine ge_getI DX11_text_124 fl_X11_156 is_362 (by decide) rfl ?_
        refine ge_isub DX11_text_127 ?_
        exact ge_iret rfl DX11_text_128
    refine ge_if_ge (tgt := 114) DX11_text_92 (by decide) ?_ ?_
    · refine ge_aload_n 0 DX11_text_95 rfl ?_
      refine ge_getI DX11_text_96 fl_X11_159 is_362 (by decide) rfl ?_
      refine ge_aload_n 0 DX11_text_99 rfl ?_
      refine ge_getI DX11_text_100 fl_X11_153 is_362 (by decide) rfl ?_
      refine ge_icmp_ge (tgt := 114) DX11_text_103 (by decide) ?_ ?_
      · refine ge_aload_n 0 DX11_text_106 rfl ?_
        refine ge_aload_n 0 DX11_text_107 rfl ?_
        refine ge_getI DX11_text_108 fl_X11_159 is_362 (by decide) rfl ?_
        refine ge_callVv0 (st := []) cm_X11_172 DX11_text_111 is_362 rfl (okX11_wrongAt (kl K) X m9 (m9 362 27)) rfl rfl (Nat.le_of_ble_eq_true rfl) (by decide) ⟨rfl, rfl⟩ ⟨Nat.zero_le _, Nat.zero_le _⟩ (fun m12 => ?_)
        exact hj114 m12
      · exact hj114 m9
    · exact hj114 m9
abbrev gX11_nameMany (K : Kt) (X : Xt) := GE (R := Int32) K rmX11_nameMany X cX11_nameMany 2 RX11 (some .int) (finM K X ιI 0 0)
set_option maxHeartbeats 4000000 in
set_option maxRecDepth 100000 in
theorem okX11_nameMany (l : Launch) (X : Xt) (m0 : Mem) (a1 : Int32) : Ct l yX11_nameMany cX11_nameMany 2 (some .int) rmX11_nameMany ιI X [.ref (xad X 362), .int a1] m0 (fX11_nameMany m0 a1) := by
  refine ct_of (own := RX11) (ls := [(0, .ref (xad X 362)), (1, .int a1)]) (by decide) rfl rfl (Nat.le_of_ble_eq_true rfl) (fun K => ?_)
  show gX11_nameMany K X 0 0 0 [(0, .ref (xad X 362)), (1, .int a1)] [] m0 (fX11_nameMany m0 a1)
  delta fX11_nameMany
  refine ge_aload_n 0 DX11_nameMany_0 rfl ?_
  refine ge_getR (i := 365) DX11_nameMany_1 fl_X11_16 is_362 (by decide) rfl ?_
  refine ge_iconst (v := (3 : Int32)) DX11_nameMany_4 rfl ?_
  refine ge_iload_n 1 DX11_nameMany_5 rfl ?_
  refine ge_imul DX11_nameMany_6 ?_
  refine ge_iconst (v := (2 : Int32)) DX11_nameMany_7 rfl ?_
  refine ge_iadd DX11_nameMany_8 ?_
  refine ge_iald DX11_nameMany_9 is_365 al_365 ?_
  refine ge_if_eq (tgt := 17) DX11_nameMany_10 (by decide) ?_ ?_
  · refine ge_aload_n 0 DX11_nameMany_17 rfl ?_
    refine ge_getR (i := 365) DX11_nameMany_18 fl_X11_16 is_362 (by decide) rfl ?_
    refine ge_iconst (v := (3 : Int32)) DX11_nameMany_21 rfl ?_
    refine ge_iload_n 1 DX11_nameMany_22 rfl ?_
    refine ge_imul DX11_nameMany_23 ?_
    refine ge_iconst (v := (1 : Int32)) DX11_nameMany_24 rfl ?_
    refine ge_iadd DX11_nameMany_25 ?_
    refine ge_iald DX11_nameMany_26 is_365 al_365 ?_
    refine ge_if_eq (tgt := 34) DX11_nameMany_27 (by decide) ?_ ?_
    · refine ge_iconst (v := (1 : Int32)) DX11_nameMany_34 rfl ?_
      exact ge_iret rfl DX11_nameMany_35
    · refine ge_iconst (v := (2 : Int32)) DX11_nameMany_30 rfl ?_
      refine ge_goto (tgt := 35) DX11_nameMany_31 (by decide) ?_
      exact ge_iret rfl DX11_nameMany_35
  · refine ge_iconst (v := (3 : Int32)) DX11_nameMany_13 rfl ?_
    refine ge_goto (tgt := 35) DX11_nameMany_14 (by decide) ?_
    exact ge_iret rfl DX11_nameMany_35
abbrev gX11_formOf (K : Kt) (X : Xt) := GE (R := Int32) K rmX11_formOf X cX11_formOf 3 RX11 (some .int) (finM K X ιI 0 0)
set_option maxHeartbeats 4000000 in
set_option maxRecDepth 100000 in
theorem okX11_formOf (l : Launch) (X : Xt) (m0 : Mem) (a1 : Int32) (a2 : Int32) : Ct l yX11_formOf cX11_formOf 3 (some .int) rmX11_formOf ιI X [.ref (xad X 362), .int a1, .int a2] m0 (fX11_formOf m0 a1 a2) := by
  refine ct_of (own := RX11) (ls := [(0, .ref (xad X 362)), (1, .int a1), (2, .int a2)]) (by decide) rfl rfl (Nat.le_of_ble_eq_true rfl) (fun K => ?_)
  show gX11_formOf K X 0 0 0 [(0, .ref (xad X 362)), (1, .int a1), (2, .int a2)] [] m0 (fX11_formOf m0 a1 a2)
  delta fX11_formOf
  refine ge_aload_n 0 DX11_formOf_0 rfl ?_
  refine ge_iload_n 1 DX11_formOf_1 rfl ?_
  refine ge_callVi0 (st := []) cm_X11_206 DX11_formOf_2 is_362 rfl (okX11_isForm (kl K) X m0 a1) rfl rfl (Nat.le_of_ble_eq_true rfl) (by decide) ⟨rfl, rfl⟩ ⟨Nat.zero_le _, Nat.zero_le _⟩ (fun r2 m1 => ?_)
  refine ge_jn (P := fun k => ∀ (m3 : Mem), gX11_formOf K X 0 0 20 [(0, .ref (xad X 362))] [] m3 (k m3)) (fun m3 => ?_) (fun j20 hj20 => ?_)
  · refine ge_aload_n 0 DX11_formOf_20 rfl ?_
    refine ge_sipush (v := (-1001 : Int32)) DX11_formOf_21 rfl ?_
    refine ge_callVi0 (st := []) cm_X11_145 DX11_formOf_24 is_362 rfl (okX11_refuse (kl K) X m3 (-1001 : Int32)) rfl rfl (Nat.le_of_ble_eq_true rfl) (by decide) ⟨rfl, rfl⟩ ⟨Nat.zero_le _, Nat.zero_le _⟩ (fun r5 m4 => ?_)
    exact ge_iret rfl DX11_formOf_27
  refine ge_if_eq (tgt := 20) DX11_formOf_5 (by decide) ?_ ?_
  · refine ge_sub [0] rfl ?_
    exact hj20 m1
  · refine ge_iload_n 2 DX11_formOf_8 rfl ?_
    refine ge_i2l DX11_formOf_9 ?_
    refine ge_lconst (v := (0 : Int64)) DX11_formOf_10 rfl ?_
    refine ge_ldc2 (v := (5 : Int64)) kw_X11_209 DX11_formOf_11 ?_
    refine ge_callSi0 (st := []) cm_X11_89 DX11_formOf_14 (okX11_isIn (kl K) X m1 ((a2).toInt64) (0 : Int64) (5 : Int64)) rfl rfl (Nat.le_of_ble_eq_true rfl) (by decide) ⟨rfl, rfl⟩ ⟨Nat.zero_le _, Nat.zero_le _⟩ (fun r7 m6 => ?_)
    refine ge_if_ne (tgt := 28) DX11_formOf_17 (by decide) ?_ ?_
    · refine ge_sub [0] rfl ?_
      exact hj20 m6
    · refine ge_iload_n 2 DX11_formOf_28 rfl ?_
      refine ge_ite (fun hx8 => ?_) (fun hx8 => ?_)
      · refine ge_tsw (v := (0 : Int32)) (tgt := 64) DX11_formOf_29 hx8 (by decide) (by decide) rfl (by decide) ?_
        refine ge_aload_n 0 DX11_formOf_64 rfl ?_
        refine ge_getR (i := 364) DX11_formOf_65 fl_X11_13 is_362 (by decide) rfl ?_
        refine ge_iload_n 1 DX11_formOf_68 rfl ?_
        refine ge_iald DX11_formOf_69 is_364 al_364 ?_
        exact ge_iret rfl DX11_formOf_70
      refine ge_ite (fun hx9 => ?_) (fun hx9 => ?_)
      · refine ge_tsw (v := (1 : Int32)) (tgt := 71) DX11_formOf_29 hx9 (by decide) (by decide) rfl (by decide) ?_
        refine ge_aload_n 0 DX11_formOf_71 rfl ?_
        refine ge_iload_n 1 DX11_formOf_72 rfl ?_
        refine ge_callVi0 (st := []) cm_X11_111 DX11_formOf_73 is_362 rfl (okX11_maskOf (kl K) X m6 a1) rfl rfl (Nat.le_of_ble_eq_true rfl) (by decide) ⟨rfl, rfl⟩ ⟨Nat.zero_le _, Nat.zero_le _⟩ (fun r11 m10 => ?_)
        exact ge_iret rfl DX11_formOf_76
      refine ge_ite (fun hx12 => ?_) (fun hx12 => ?_)
      · refine ge_tsw (v := (2 : Int32)) (tgt := 77) DX11_formOf_29 hx12 (by decide) (by decide) rfl (by decide) ?_
        refine ge_aload_n 0 DX11_formOf_77 rfl ?_
        refine ge_iload_n 1 DX11_formOf_78 rfl ?_
        refine ge_callVi0 (st := []) cm_X11_114 DX11_formOf_79 is_362 rfl (okX11_valueOf (kl K) X m6 a1) rfl rfl (Nat.le_of_ble_eq_true rfl) (by decide) ⟨rfl, rfl⟩ ⟨Nat.zero_le _, Nat.zero_le _⟩ (fun r14 m13 => ?_)
        exact ge_iret rfl DX11_formOf_82
      refine ge_ite (fun hx15 => ?_) (fun hx15 => ?_)
      · refine ge_tsw (v := (3 : Int32)) (tgt := 83) DX11_formOf_29 hx15 (by decide) (by decide) rfl (by decide) ?_
        refine ge_aload_n 0 DX11_formOf_83 rfl ?_
        refine ge_iload_n 1 DX11_formOf_84 rfl ?_
        refine ge_callVi0 (st := []) cm_X11_211 DX11_formOf_85 is_362 rfl (okX11_fieldsOf (kl K) X m6 a1) rfl rfl (Nat.le_of_ble_eq_true rfl) (by decide) ⟨rfl, rfl⟩ ⟨Nat.zero_le _, Nat.zero_le _⟩ (fun r17 m16 => ?_)
        exact ge_iret rfl DX11_formOf_88
      refine ge_ite (fun hx18 => ?_) (fun hx18 => ?_)
      · refine ge_tsw (v := (4 : Int32)) (tgt := 89) DX11_formOf_29 hx18 (by decide) (by decide) rfl (by decide) ?_
        refine ge_aload_n 0 DX11_formOf_89 rfl ?_
        refine ge_getR (i := 367) DX11_formOf_90 fl_X11_22 is_362 (by decide) rfl ?_
        refine ge_iload_n 1 DX11_formOf_93 rfl ?_
        refine ge_iald DX11_formOf_94 is_367 al_367 ?_
        exact ge_iret rfl DX11_formOf_95
      refine ge_tswd (tgt := 96) DX11_formOf_29 (sw_out 0 5 rfl (by decide) (fun i hi => by rcases i with _ | _ | _ | _ | _ | i <;> first | exact absurd hi (by omega) | assumption)) (by decide) ?_
      refine ge_aload_n 0 DX11_formOf_96 rfl ?_
      refine ge_iload_n 1 DX11_formOf_97 rfl ?_
      refine ge_callVi0 (st := []) cm_X11_214 DX11_formOf_98 is_362 rfl (okX11_nameMany (kl K) X m6 a1) rfl rfl (Nat.le_of_ble_eq_true rfl) (by decide) ⟨rfl, rfl⟩ ⟨Nat.zero_le _, Nat.zero_le _⟩ (fun r20 m19 => ?_)
      exact ge_iret rfl DX11_formOf_101
abbrev gX11_formNamed (K : Kt) (X : Xt) := GE (R := Int32) K rmX11_formNamed X cX11_formNamed 6 RX11 (some .int) (finM K X ιI 0 0)
set_option maxHeartbeats 4000000 in
set_option maxRecDepth 100000 in
theorem lX11_formNamed_L6 (K : Kt) (X : Xt) {k73 : Int32 → Option (Int32 × Mem)} (m1 : Mem) (y2 : Int32) (y3 : Int32) (y4 : Int32)  (hk73 : ∀ (x7 : Int32), gX11_formNamed K X 0 0 73 [(4, .int x7)] [] m1 (k73 x7)) :
    ∀ (n : Nat) (x5 : Int32) (x6 : Int32), gX11_formNamed K X 0 0 6 [(0, .ref (xad X 362)), (1, .int y2), (2, .int y3), (3, .int y4), (4, .int x5), (5, .int x6)] [] m1 (fX11_formNamed_L6 k73 m1 y2 y3 y4 n x5 x6) := by
  intro n
  induction n with
  | zero => intro x5 x6; exact ge_none
  | succ n ih =>
    intro x5 x6
    show gX11_formNamed K X 0 0 6 [(0, .ref (xad X 362)), (1, .int y2), (2, .int y3), (3, .int y4), (4, .int x5), (5, .int x6)] [] m1 (fX11_formNamed_L6_b k73 m1 y2 y3 y4 (fX11_formNamed_L6 k73 m1 y2 y3 y4 n) x5 x6)
    delta fX11_formNamed_L6_b
    refine ge_iload 5 DX11_formNamed_6 rfl ?_
    refine ge_aload_n 0 DX11_formNamed_8 rfl ?_
    refine ge_getI DX11_formNamed_9 fl_X11_76 is_362 (by decide) rfl ?_
    refine ge_icmp_ge (tgt := 73) DX11_formNamed_12 (by decide) ?_ ?_
    · refine ge_aload_n 0 DX11_formNamed_15 rfl ?_
      refine ge_getR (i := 365) DX11_formNamed_16 fl_X11_16 is_362 (by decide) rfl ?_
      refine ge_iconst (v := (3 : Int32)) DX11_formNamed_19 rfl ?_
      refine ge_iload 5 DX11_formNamed_20 rfl ?_
      refine ge_imul DX11_formNamed_22 ?_
      refine ge_iald DX11_formNamed_23 is_365 al_365 ?_
      refine ge_iload_n 1 DX11_formNamed_24 rfl ?_
      refine ge_jn (P := fun k => ∀ (v9 : Int32), gX11_formNamed K X 0 0 65 [(0, .ref (xad X 362)), (1, .int y2), (2, .int y3), (3, .int y4), (5, .int x6)] [.int v9] m1 (k v9)) (fun v9 => ?_) (fun j65 hj65 => ?_)
      · refine ge_istore (ls' := [(4, .int v9), (0, .ref (xad X 362)), (1, .int y2), (2, .int y3), (3, .int y4), (5, .int x6)]) DX11_formNamed_65 (by decide) rfl ?_
        refine ge_iinc 5 (v := (x6 + (1 : Int32))) (ls' := [(5, .int (x6 + (1 : Int32))), (4, .int v9), (0, .ref (xad X 362)), (1, .int y2), (2, .int y3), (3, .int y4)]) DX11_formNamed_67 rfl rfl (by decide) rfl ?_
        refine ge_goto (tgt := 6) DX11_formNamed_70 (by decide) ?_
        refine ge_sub [2, 3, 4, 5, 1, 0] rfl ?_
        exact ih v9 (x6 + (1 : Int32))
      refine ge_jn (P := fun k => gX11_formNamed K X 0 0 63 [(0, .ref (xad X 362)), (1, .int y2), (2, .int y3), (3, .int y4), (4, .int x5), (5, .int x6)] [] m1 k) ?_ (fun j63 hj63 => ?_)
      · refine ge_iload 4 DX11_formNamed_63 rfl ?_
        refine ge_sub [0, 1, 2, 3, 5] rfl ?_
        exact hj65 x5
      refine ge_icmp_ne (tgt := 63) DX11_formNamed_25 (by decide) ?_ ?_
      · refine ge_aload_n 0 DX11_formNamed_28 rfl ?_
        refine ge_getR (i := 365) DX11_formNamed_29 fl_X11_16 is_362 (by decide) rfl ?_
        refine ge_iconst (v := (3 : Int32)) DX11_formNamed_32 rfl ?_
        refine ge_iload 5 DX11_formNamed_33 rfl ?_
        refine ge_imul DX11_formNamed_35 ?_
        refine ge_iconst (v := (1 : Int32)) DX11_formNamed_36 rfl ?_
        refine ge_iadd DX11_formNamed_37 ?_
        refine ge_iald DX11_formNamed_38 is_365 al_365 ?_
        refine ge_iload_n 2 DX11_formNamed_39 rfl ?_
        refine ge_icmp_ne (tgt := 63) DX11_formNamed_40 (by decide) ?_ ?_
        · refine ge_aload_n 0 DX11_formNamed_43 rfl ?_
          refine ge_getR (i := 365) DX11_formNamed_44 fl_X11_16 is_362 (by decide) rfl ?_
          refine ge_iconst (v := (3 : Int32)) DX11_formNamed_47 rfl ?_
          refine ge_iload 5 DX11_formNamed_48 rfl ?_
          refine ge_imul DX11_formNamed_50 ?_
          refine ge_iconst (v := (2 : Int32)) DX11_formNamed_51 rfl ?_
          refine ge_iadd DX11_formNamed_52 ?_
          refine ge_iald DX11_formNamed_53 is_365 al_365 ?_
          refine ge_iload_n 3 DX11_formNamed_54 rfl ?_
          refine ge_icmp_ne (tgt := 63) DX11_formNamed_55 (by decide) ?_ ?_
          · refine ge_iload 5 DX11_formNamed_58 rfl ?_
            refine ge_goto (tgt := 65) DX11_formNamed_60 (by decide) ?_
            refine ge_sub [0, 1, 2, 3, 5] rfl ?_
            exact hj65 x6
          · exact hj63
        · exact hj63
      · exact hj63
    · refine ge_sub [4] rfl ?_
      exact hk73 x5
set_option maxHeartbeats 4000000 in
set_option maxRecDepth 100000 in
theorem okX11_formNamed (l : Launch) (X : Xt) (m0 : Mem) (a1 : Int32) (a2 : Int32) (a3 : Int32) : Ct l yX11_formNamed cX11_formNamed 6 (some .int) rmX11_formNamed ιI X [.ref (xad X 362), .int a1, .int a2, .int a3] m0 (fX11_formNamed m0 a1 a2 a3) := by
  refine ct_of (own := RX11) (ls := [(0, .ref (xad X 362)), (1, .int a1), (2, .int a2), (3, .int a3)]) (by decide) rfl rfl (Nat.le_of_ble_eq_true rfl) (fun K => ?_)
  show gX11_formNamed K X 0 0 0 [(0, .ref (xad X 362)), (1, .int a1), (2, .int a2), (3, .int a3)] [] m0 (fX11_formNamed m0 a1 a2 a3)
  delta fX11_formNamed
  refine ge_iconst (v := (-1 : Int32)) DX11_formNamed_0 rfl ?_
  refine ge_istore (ls' := [(4, .int (-1 : Int32)), (0, .ref (xad X 362)), (1, .int a1), (2, .int a2), (3, .int a3)]) DX11_formNamed_1 (by decide) rfl ?_
  refine ge_iconst (v := (0 : Int32)) DX11_formNamed_3 rfl ?_
  refine ge_istore (ls' := [(5, .int (0 : Int32)), (4, .int (-1 : Int32)), (0, .ref (xad X 362)), (1, .int a1), (2, .int a2), (3, .int a3)]) DX11_formNamed_4 (by decide) rfl ?_
  refine ge_sub [2, 3, 4, 5, 1, 0] rfl ?_
  refine lX11_formNamed_L6 K X m0 a1 a2 a3 (fun x8 => ?_) 5000 (-1 : Int32) (0 : Int32)
  · refine ge_iload 0 DX11_formNamed_73 rfl ?_
    exact ge_iret rfl DX11_formNamed_75
abbrev gX11_named (K : Kt) (X : Xt) := GE (R := Int32) K rmX11_named X cX11_named 4 RX11 (some .int) (finM K X ιI 0 0)
set_option maxHeartbeats 4000000 in
set_option maxRecDepth 100000 in
theorem okX11_named (l : Launch) (X : Xt) (m0 : Mem) (a1 : Int32) (a2 : Int32) (a3 : Int32) : Ct l yX11_named cX11_named 4 (some .int) rmX11_named ιI X [.ref (xad X 362), .int a1, .int a2, .int a3] m0 (fX11_named m0 a1 a2 a3) := by
  refine ct_of (own := RX11) (ls := [(0, .ref (xad X 362)), (1, .int a1), (2, .int a2), (3, .int a3)]) (by decide) rfl rfl (Nat.le_of_ble_eq_true rfl) (fun K => ?_)
  show gX11_named K X 0 0 0 [(0, .ref (xad X 362)), (1, .int a1), (2, .int a2), (3, .int a3)] [] m0 (fX11_named m0 a1 a2 a3)
  delta fX11_named
  refine ge_iload_n 1 DX11_named_0 rfl ?_
  refine ge_i2l DX11_named_1 ?_
  refine ge_lconst (v := (0 : Int64)) DX11_named_2 rfl ?_
  refine ge_ldc2 (v := (25 : Int64)) kw_X11_217 DX11_named_3 ?_
  refine ge_callSi0 (st := []) cm_X11_89 DX11_named_6 (okX11_isIn (kl K) X m0 ((a1).toInt64) (0 : Int64) (25 : Int64)) rfl rfl (Nat.le_of_ble_eq_true rfl) (by decide) ⟨rfl, rfl⟩ ⟨Nat.zero_le _, Nat.zero_le _⟩ (fun r2 m1 => ?_)
  refine ge_jn (P := fun k => ∀ (m3 : Mem), gX11_named K X 0 0 48 [(0, .ref (xad X 362))] [] m3 (k m3)) (fun m3 => ?_) (fun j48 hj48 => ?_)
  · refine ge_aload_n 0 DX11_named_48 rfl ?_
    refine ge_sipush (v := (-1001 : Int32)) DX11_named_49 rfl ?_
    refine ge_callVi0 (st := []) cm_X11_145 DX11_named_52 is_362 rfl (okX11_refuse (kl K) X m3 (-1001 : Int32)) rfl rfl (Nat.le_of_ble_eq_true rfl) (by decide) ⟨rfl, rfl⟩ ⟨Nat.zero_le _, Nat.zero_le _⟩ (fun r5 m4 => ?_)
    exact ge_iret rfl DX11_named_55
  refine ge_if_eq (tgt := 48) DX11_named_9 (by decide) ?_ ?_
  · refine ge_sub [0] rfl ?_
    exact hj48 m1
  · refine ge_iload_n 2 DX11_named_12 rfl ?_
    refine ge_i2l DX11_named_13 ?_
    refine ge_ldc2 (v := (-1 : Int64)) kw_X11_219 DX11_named_14 ?_
    refine ge_ldc2 (v := (25 : Int64)) kw_X11_217 DX11_named_17 ?_
    refine ge_callSi0 (st := []) cm_X11_89 DX11_named_20 (okX11_isIn (kl K) X m1 ((a2).toInt64) (-1 : Int64) (25 : Int64)) rfl rfl (Nat.le_of_ble_eq_true rfl) (by decide) ⟨rfl, rfl⟩ ⟨Nat.zero_le _, Nat.zero_le _⟩ (fun r7 m6 => ?_)
    refine ge_if_eq (tgt := 48) DX11_named_23 (by decide) ?_ ?_
    · refine ge_sub [0] rfl ?_
      exact hj48 m6
    · refine ge_iload_n 3 DX11_named_26 rfl ?_
      refine ge_i2l DX11_named_27 ?_
      refine ge_ldc2 (v := (-1 : Int64)) kw_X11_219 DX11_named_28 ?_
      refine ge_ldc2 (v := (25 : Int64)) kw_X11_217 DX11_named_31 ?_
      refine ge_callSi0 (st := []) cm_X11_89 DX11_named_34 (okX11_isIn (kl K) X m6 ((a3).toInt64) (-1 : Int64) (25 : Int64)) rfl rfl (Nat.le_of_ble_eq_true rfl) (by decide) ⟨rfl, rfl⟩ ⟨Nat.zero_le _, Nat.zero_le _⟩ (fun r9 m8 => ?_)
      refine ge_if_eq (tgt := 48) DX11_named_37 (by decide) ?_ ?_
      · refine ge_sub [0] rfl ?_
        exact hj48 m8
      · refine ge_iload_n 2 DX11_named_40 rfl ?_
        refine ge_jn (P := fun k => gX11_named K X 0 0 56 [(0, .ref (xad X 362)), (1, .int a1), (2, .int a2), (3, .int a3)] [] m8 k) ?_ (fun j56 hj56 => ?_)
        · refine ge_aload_n 0 DX11_named_56 rfl ?_
          refine ge_bipush (v := (97 : Int32)) DX11_named_57 rfl ?_
          refine ge_iload_n 1 DX11_named_59 rfl ?_
          refine ge_iadd DX11_named_60 ?_
          refine ge_iload_n 2 DX11_named_61 rfl ?_
          refine ge_jn (P := fun k => ∀ (v10 : Int32), gX11_named K X 0 0 73 [(3, .int a3)] [.int v10, .int ((97 : Int32) + a1), .ref (xad X 362)] m8 (k v10)) (fun v10 => ?_) (fun j73 hj73 => ?_)
          · refine ge_iload_n 0 DX11_named_73 rfl ?_
            refine ge_jn (P := fun k => ∀ (v11 : Int32), gX11_named K X 0 0 85 [] [.int v11, .int v10, .int ((97 : Int32) + a1), .ref (xad X 362)] m8 (k v11)) (fun v11 => ?_) (fun j85 hj85 => ?_)
            · refine ge_callVi0 (st := []) cm_X11_221 DX11_named_85 is_362 rfl (okX11_formNamed (kl K) X m8 ((97 : Int32) + a1) v10 v11) rfl rfl (Nat.le_of_ble_eq_true rfl) (by decide) ⟨rfl, rfl⟩ ⟨Nat.zero_le _, Nat.zero_le _⟩ (fun r13 m12 => ?_)
              exact ge_iret rfl DX11_named_88
            refine ge_if_ge (tgt := 81) DX11_named_74 (by decide) ?_ ?_
            · refine ge_iconst (v := (0 : Int32)) DX11_named_77 rfl ?_
              refine ge_goto (tgt := 85) DX11_named_78 (by decide) ?_
              refine ge_sub [] rfl ?_
              exact hj85 (0 : Int32)
            · refine ge_bipush (v := (97 : Int32)) DX11_named_81 rfl ?_
              refine ge_iload_n 0 DX11_named_83 rfl ?_
              refine ge_iadd DX11_named_84 ?_
              refine ge_sub [] rfl ?_
              exact hj85 ((97 : Int32) + a3)
          refine ge_if_ge (tgt := 69) DX11_named_62 (by decide) ?_ ?_
          · refine ge_iconst (v := (0 : Int32)) DX11_named_65 rfl ?_
            refine ge_goto (tgt := 73) DX11_named_66 (by decide) ?_
            refine ge_sub [3] rfl ?_
            exact hj73 (0 : Int32)
          · refine ge_bipush (v := (97 : Int32)) DX11_named_69 rfl ?_
            refine ge_iload_n 2 DX11_named_71 rfl ?_
            refine ge_iadd DX11_named_72 ?_
            refine ge_sub [3] rfl ?_
            exact hj73 ((97 : Int32) + a2)
        refine ge_if_ge (tgt := 56) DX11_named_41 (by decide) ?_ ?_
        · refine ge_iload_n 3 DX11_named_44 rfl ?_
          refine ge_if_lt (tgt := 56) DX11_named_45 (by decide) ?_ ?_
          · exact hj56
          · refine ge_sub [0] rfl ?_
            exact hj48 m8
        · exact hj56
abbrev gX11_ofKind (K : Kt) (X : Xt) := GE (R := Int32) K rmX11_ofKind X cX11_ofKind 5 RX11 (some .int) (finM K X ιI 0 0)
set_option maxHeartbeats 4000000 in
set_option maxRecDepth 100000 in
theorem lX11_ofKind_L40 (K : Kt) (X : Xt) {k63 : Int32 → Option (Int32 × Mem)} (m12 : Mem) (y13 : Int32) (y14 : Int32) (y15 : Int32)  (hk63 : ∀ (x17 : Int32), gX11_ofKind K X 0 0 63 [(0, .ref (xad X 362)), (1, .int y13), (2, .int y14), (3, .int y15), (4, .int x17)] [] m12 (k63 x17)) :
    ∀ (n : Nat) (x16 : Int32), gX11_ofKind K X 0 0 40 [(0, .ref (xad X 362)), (1, .int y13), (2, .int y14), (3, .int y15), (4, .int x16)] [] m12 (fX11_ofKind_L40 k63 m12 y13 y14 y15 n x16) := by
  intro n
  induction n with
  | zero => intro x16; exact ge_none
  | succ n ih =>
    intro x16
    show gX11_ofKind K X 0 0 40 [(0, .ref (xad X 362)), (1, .int y13), (2, .int y14), (3, .int y15), (4, .int x16)] [] m12 (fX11_ofKind_L40_b k63 m12 y13 y14 y15 (fX11_ofKind_L40 k63 m12 y13 y14 y15 n) x16)
    delta fX11_ofKind_L40_b
    refine ge_iload 4 DX11_ofKind_40 rfl ?_
    refine ge_iconst (v := (-1 : Int32)) DX11_ofKind_42 rfl ?_
    refine ge_icmp_eq (tgt := 63) DX11_ofKind_43 (by decide) ?_ ?_
    · exact hk63 x16
    · refine ge_iload 4 DX11_ofKind_46 rfl ?_
      refine ge_iload_n 1 DX11_ofKind_48 rfl ?_
      refine ge_icmp_eq (tgt := 63) DX11_ofKind_49 (by decide) ?_ ?_
      · exact hk63 x16
      · refine ge_gets DX11_ofKind_52 sl_X11_226 ?_
        refine ge_iload 4 DX11_ofKind_55 rfl ?_
        refine ge_sald (j := 5) DX11_ofKind_57 (by decide) rfl rfl ?_
        refine ge_topi (fun x21 => ?_)
        refine ge_istore (ls' := [(4, .int x21), (0, .ref (xad X 362)), (1, .int y13), (2, .int y14), (3, .int y15)]) DX11_ofKind_58 (by decide) rfl ?_
        refine ge_goto (tgt := 40) DX11_ofKind_60 (by decide) ?_
        refine ge_sub [1, 2, 3, 4, 0] rfl ?_
        exact ih x21
set_option maxHeartbeats 4000000 in
set_option maxRecDepth 100000 in
theorem lX11_ofKind_L24 (K : Kt) (X : Xt) {k85 : Int32 → Option (Int32 × Mem)} (m5 : Mem) (y6 : Int32)  (hk85 : ∀ (x9 : Int32), gX11_ofKind K X 0 0 85 [(2, .int x9)] [] m5 (k85 x9)) :
    ∀ (n : Nat) (x7 : Int32) (x8 : Int32), gX11_ofKind K X 0 0 24 [(0, .ref (xad X 362)), (1, .int y6), (2, .int x7), (3, .int x8)] [] m5 (fX11_ofKind_L24 k85 m5 y6 n x7 x8) := by
  intro n
  induction n with
  | zero => intro x7 x8; exact ge_none
  | succ n ih =>
    intro x7 x8
    show gX11_ofKind K X 0 0 24 [(0, .ref (xad X 362)), (1, .int y6), (2, .int x7), (3, .int x8)] [] m5 (fX11_ofKind_L24_b k85 m5 y6 (fX11_ofKind_L24 k85 m5 y6 n) x7 x8)
    delta fX11_ofKind_L24_b
    refine ge_iload_n 3 DX11_ofKind_24 rfl ?_
    refine ge_aload_n 0 DX11_ofKind_25 rfl ?_
    refine ge_getI DX11_ofKind_26 fl_X11_76 is_362 (by decide) rfl ?_
    refine ge_icmp_ge (tgt := 85) DX11_ofKind_29 (by decide) ?_ ?_
    · refine ge_aload_n 0 DX11_ofKind_32 rfl ?_
      refine ge_getR (i := 364) DX11_ofKind_33 fl_X11_13 is_362 (by decide) rfl ?_
      refine ge_iload_n 3 DX11_ofKind_36 rfl ?_
      refine ge_iald DX11_ofKind_37 is_364 al_364 ?_
      refine ge_topi (fun x11 => ?_)
      refine ge_istore (ls' := [(4, .int x11), (0, .ref (xad X 362)), (1, .int y6), (2, .int x7), (3, .int x8)]) DX11_ofKind_38 (by decide) rfl ?_
      refine ge_sub [1, 2, 3, 4, 0] rfl ?_
      refine lX11_ofKind_L40 K X m5 y6 x7 x8 (fun x18 => ?_) 5000 x11
      · refine ge_iload_n 2 DX11_ofKind_63 rfl ?_
        refine ge_iload 4 DX11_ofKind_64 rfl ?_
        refine ge_iload_n 1 DX11_ofKind_66 rfl ?_
        refine ge_jn (P := fun k => ∀ (v19 : Int32), gX11_ofKind K X 0 0 77 [(0, .ref (xad X 362)), (1, .int y6), (3, .int x8)] [.int v19, .int x7] m5 (k v19)) (fun v19 => ?_) (fun j77 hj77 => ?_)
        · refine ge_ior DX11_ofKind_77 ?_
          refine ge_topi (fun x20 => ?_)
          refine ge_istore_n (ls' := [(2, .int x20), (0, .ref (xad X 362)), (1, .int y6), (3, .int x8)]) DX11_ofKind_78 (by decide) rfl ?_
          refine ge_iinc 3 (v := (x8 + (1 : Int32))) (ls' := [(3, .int (x8 + (1 : Int32))), (2, .int x20), (0, .ref (xad X 362)), (1, .int y6)]) DX11_ofKind_79 rfl rfl (by decide) rfl ?_
          refine ge_goto (tgt := 24) DX11_ofKind_82 (by decide) ?_
          refine ge_sub [2, 3, 1, 0] rfl ?_
          exact ih x20 (x8 + (1 : Int32))
        refine ge_icmp_ne (tgt := 76) DX11_ofKind_67 (by decide) ?_ ?_
        · refine ge_iconst (v := (1 : Int32)) DX11_ofKind_70 rfl ?_
          refine ge_iload_n 3 DX11_ofKind_71 rfl ?_
          refine ge_ishl DX11_ofKind_72 ?_
          refine ge_goto (tgt := 77) DX11_ofKind_73 (by decide) ?_
          refine ge_sub [0, 1, 3] rfl ?_
          exact hj77 ((1 : Int32) <<< (x8 &&& 31))
        · refine ge_iconst (v := (0 : Int32)) DX11_ofKind_76 rfl ?_
          refine ge_sub [0, 1, 3] rfl ?_
          exact hj77 (0 : Int32)
    · refine ge_sub [2] rfl ?_
      exact hk85 x7
set_option maxHeartbeats 4000000 in
set_option maxRecDepth 100000 in
theorem okX11_ofKind (l : Launch) (X : Xt) (m0 : Mem) (a1 : Int32) : Ct l yX11_ofKind cX11_ofKind 5 (some .int) rmX11_ofKind ιI X [.ref (xad X 362), .int a1] m0 (fX11_ofKind m0 a1) := by
  refine ct_of (own := RX11) (ls := [(0, .ref (xad X 362)), (1, .int a1)]) (by decide) rfl rfl (Nat.le_of_ble_eq_true rfl) (fun K => ?_)
  show gX11_ofKind K X 0 0 0 [(0, .ref (xad X 362)), (1, .int a1)] [] m0 (fX11_ofKind m0 a1)
  delta fX11_ofKind
  refine ge_iload_n 1 DX11_ofKind_0 rfl ?_
  refine ge_i2l DX11_ofKind_1 ?_
  refine ge_lconst (v := (0 : Int64)) DX11_ofKind_2 rfl ?_
  refine ge_ldc2 (v := (6 : Int64)) kw_X11_224 DX11_ofKind_3 ?_
  refine ge_callSi0 (st := []) cm_X11_89 DX11_ofKind_6 (okX11_isIn (kl K) X m0 ((a1).toInt64) (0 : Int64) (6 : Int64)) rfl rfl (Nat.le_of_ble_eq_true rfl) (by decide) ⟨rfl, rfl⟩ ⟨Nat.zero_le _, Nat.zero_le _⟩ (fun r2 m1 => ?_)
  refine ge_if_ne (tgt := 20) DX11_ofKind_9 (by decide) ?_ ?_
  · refine ge_aload_n 0 DX11_ofKind_12 rfl ?_
    refine ge_sipush (v := (-1001 : Int32)) DX11_ofKind_13 rfl ?_
    refine ge_callVi0 (st := []) cm_X11_145 DX11_ofKind_16 is_362 rfl (okX11_refuse (kl K) X m1 (-1001 : Int32)) rfl rfl (Nat.le_of_ble_eq_true rfl) (by decide) ⟨rfl, rfl⟩ ⟨Nat.zero_le _, Nat.zero_le _⟩ (fun r4 m3 => ?_)
    exact ge_iret rfl DX11_ofKind_19
  · refine ge_iconst (v := (0 : Int32)) DX11_ofKind_20 rfl ?_
    refine ge_istore_n (ls' := [(2, .int (0 : Int32)), (0, .ref (xad X 362)), (1, .int a1)]) DX11_ofKind_21 (by decide) rfl ?_
    refine ge_iconst (v := (0 : Int32)) DX11_ofKind_22 rfl ?_
    refine ge_istore_n (ls' := [(3, .int (0 : Int32)), (2, .int (0 : Int32)), (0, .ref (xad X 362)), (1, .int a1)]) DX11_ofKind_23 (by decide) rfl ?_
    refine ge_sub [2, 3, 1, 0] rfl ?_
    refine lX11_ofKind_L24 K X m1 a1 (fun x10 => ?_) 5000 (0 : Int32) (0 : Int32)
    · refine ge_iload_n 0 DX11_ofKind_85 rfl ?_
      exact ge_iret rfl DX11_ofKind_86
abbrev gX11_means (K : Kt) (X : Xt) := GE (R := Int32) K rmX11_means X cX11_means 2 RX11 (some .int) (finM K X ιI 1 12)
set_option maxHeartbeats 4000000 in
set_option maxRecDepth 100000 in
theorem okX11_means (l : Launch) (X : Xt) (hX : xn X = 385) (m0 : Mem) (a1 : Int32) : Ct l yX11_means cX11_means 2 (some .int) rmX11_means ιI X [.ref (xad X 362), .int a1] m0 (fX11_means m0 a1) := by
  refine ct_of (own := RX11) (ls := [(0, .ref (xad X 362)), (1, .int a1)]) (by decide) rfl rfl (Nat.le_of_ble_eq_true rfl) (fun K => ?_)
  show gX11_means K X 0 0 0 [(0, .ref (xad X 362)), (1, .int a1)] [] m0 (fX11_means m0 a1)
  delta fX11_means
  refine ge_iload_n 1 DX11_means_0 rfl ?_
  refine ge_callSi0 (st := []) cm_X11_229 DX11_means_1 (okX11_isWord (kl K) X m0 a1) rfl rfl (Nat.le_of_ble_eq_true rfl) (by decide) ⟨rfl, rfl⟩ ⟨by show _ ≤ (1 : Nat); omega, by show _ ≤ (12 : Nat); omega⟩ (fun r2 m1 => ?_)
  refine ge_if_eq (tgt := 15) DX11_means_4 (by decide) ?_ ?_
  · refine ge_aload_n 0 DX11_means_15 rfl ?_
    refine ge_sipush (v := (-1001 : Int32)) DX11_means_16 rfl ?_
    refine ge_callVi0 (st := []) cm_X11_145 DX11_means_19 is_362 rfl (okX11_refuse (kl K) X m1 (-1001 : Int32)) rfl rfl (Nat.le_of_ble_eq_true rfl) (by decide) ⟨rfl, rfl⟩ ⟨by show _ ≤ (1 : Nat); omega, by show _ ≤ (12 : Nat); omega⟩ (fun r4 m3 => ?_)
    refine ge_widen (cells' := 1) (slots' := 12) (by omega) (by omega) ?_
    exact ge_iret rfl DX11_means_22
  · refine ge_aload_n 0 DX11_means_7 rfl ?_
    refine ge_iload_n 1 DX11_means_8 rfl ?_
    refine ge_callViA (st := []) cm_X11_232 DX11_means_9 is_362 rfl (okX11_meant (kl K) X hX m1 a1) rfl rfl (Nat.le_of_ble_eq_true rfl) (by decide) (dc := 1) (ds := 12) ⟨rfl, rfl⟩ ⟨by show _ + 1 ≤ (1 : Nat); omega, by show _ + 12 ≤ (12 : Nat); omega⟩ (fun r6 m5 => ?_)
    refine ge_goto (tgt := 22) DX11_means_12 (by decide) ?_
    refine ge_widen (cells' := 1) (slots' := 12) (by omega) (by omega) ?_
    exact ge_iret rfl DX11_means_22
abbrev gX11_fits (K : Kt) (X : Xt) := GE (R := Int32) K rmX11_fits X cX11_fits 2 RX11 (some .int) (finM K X ιI 1 12)
set_option maxHeartbeats 4000000 in
set_option maxRecDepth 100000 in
theorem okX11_fits (l : Launch) (X : Xt) (hX : xn X = 385) (m0 : Mem) (a1 : Int32) : Ct l yX11_fits cX11_fits 2 (some .int) rmX11_fits ιI X [.ref (xad X 362), .int a1] m0 (fX11_fits m0 a1) := by
  refine ct_of (own := RX11) (ls := [(0, .ref (xad X 362)), (1, .int a1)]) (by decide) rfl rfl (Nat.le_of_ble_eq_true rfl) (fun K => ?_)
  show gX11_fits K X 0 0 0 [(0, .ref (xad X 362)), (1, .int a1)] [] m0 (fX11_fits m0 a1)
  delta fX11_fits
  refine ge_iload_n 1 DX11_fits_0 rfl ?_
  refine ge_callSi0 (st := []) cm_X11_229 DX11_fits_1 (okX11_isWord (kl K) X m0 a1) rfl rfl (Nat.le_of_ble_eq_true rfl) (by decide) ⟨rfl, rfl⟩ ⟨by show _ ≤ (1 : Nat); omega, by show _ ≤ (12 : Nat); omega⟩ (fun r2 m1 => ?_)
  refine ge_if_ne (tgt := 15) DX11_fits_4 (by decide) ?_ ?_
  · refine ge_aload_n 0 DX11_fits_7 rfl ?_
    refine ge_sipush (v := (-1001 : Int32)) DX11_fits_8 rfl ?_
    refine ge_callVi0 (st := []) cm_X11_145 DX11_fits_11 is_362 rfl (okX11_refuse (kl K) X m1 (-1001 : Int32)) rfl rfl (Nat.le_of_ble_eq_true rfl) (by decide) ⟨rfl, rfl⟩ ⟨by show _ ≤ (1 : Nat); omega, by show _ ≤ (12 : Nat); omega⟩ (fun r4 m3 => ?_)
    refine ge_widen (cells' := 1) (slots' := 12) (by omega) (by omega) ?_
    exact ge_iret rfl DX11_fits_14
  · refine ge_aload_n 0 DX11_fits_15 rfl ?_
    refine ge_callVvA (st := []) cm_X11_140 DX11_fits_16 is_362 rfl (okX11_looks (kl K) X hX m1) rfl rfl (Nat.le_of_ble_eq_true rfl) (by decide) (dc := 1) (ds := 12) ⟨rfl, rfl⟩ ⟨by show _ + 1 ≤ (1 : Nat); omega, by show _ + 12 ≤ (12 : Nat); omega⟩ (fun m5 => ?_)
    refine ge_aload_n 0 DX11_fits_19 rfl ?_
    refine ge_getR (i := 371) DX11_fits_20 fl_X11_34 is_362 (by decide) rfl ?_
    refine ge_iload_n 1 DX11_fits_23 rfl ?_
    refine ge_iald DX11_fits_24 is_371 al_371 ?_
    refine ge_widen (cells' := 1) (slots' := 12) (by omega) (by omega) ?_
    exact ge_iret rfl DX11_fits_25
abbrev gX11_over (K : Kt) (X : Xt) := GE (R := Int32) K rmX11_over X cX11_over 3 RX11 (some .int) (finM K X ιI 0 0)
set_option maxHeartbeats 4000000 in
set_option maxRecDepth 100000 in
theorem okX11_over (l : Launch) (X : Xt) (m0 : Mem) (a1 : Int32) (a2 : Int32) : Ct l yX11_over cX11_over 3 (some .int) rmX11_over ιI X [.ref (xad X 362), .int a1, .int a2] m0 (fX11_over m0 a1 a2) := by
  refine ct_of (own := RX11) (ls := [(0, .ref (xad X 362)), (1, .int a1), (2, .int a2)]) (by decide) rfl rfl (Nat.le_of_ble_eq_true rfl) (fun K => ?_)
  show gX11_over K X 0 0 0 [(0, .ref (xad X 362)), (1, .int a1), (2, .int a2)] [] m0 (fX11_over m0 a1 a2)
  delta fX11_over
  refine ge_aload_n 0 DX11_over_0 rfl ?_
  refine ge_iload_n 1 DX11_over_1 rfl ?_
  refine ge_callVi0 (st := []) cm_X11_206 DX11_over_2 is_362 rfl (okX11_isForm (kl K) X m0 a1) rfl rfl (Nat.le_of_ble_eq_true rfl) (by decide) ⟨rfl, rfl⟩ ⟨Nat.zero_le _, Nat.zero_le _⟩ (fun r2 m1 => ?_)
  refine ge_jn (P := fun k => ∀ (m3 : Mem), gX11_over K X 0 0 21 [(0, .ref (xad X 362))] [] m3 (k m3)) (fun m3 => ?_) (fun j21 hj21 => ?_)
  · refine ge_aload_n 0 DX11_over_21 rfl ?_
    refine ge_sipush (v := (-1001 : Int32)) DX11_over_22 rfl ?_
    refine ge_callVi0 (st := []) cm_X11_145 DX11_over_25 is_362 rfl (okX11_refuse (kl K) X m3 (-1001 : Int32)) rfl rfl (Nat.le_of_ble_eq_true rfl) (by decide) ⟨rfl, rfl⟩ ⟨Nat.zero_le _, Nat.zero_le _⟩ (fun r5 m4 => ?_)
    exact ge_iret rfl DX11_over_28
  refine ge_if_eq (tgt := 21) DX11_over_5 (by decide) ?_ ?_
  · refine ge_sub [0] rfl ?_
    exact hj21 m1
  · refine ge_aload_n 0 DX11_over_8 rfl ?_
    refine ge_iload_n 2 DX11_over_9 rfl ?_
    refine ge_callVi0 (st := []) cm_X11_206 DX11_over_10 is_362 rfl (okX11_isForm (kl K) X m1 a2) rfl rfl (Nat.le_of_ble_eq_true rfl) (by decide) ⟨rfl, rfl⟩ ⟨Nat.zero_le _, Nat.zero_le _⟩ (fun r7 m6 => ?_)
    refine ge_if_eq (tgt := 21) DX11_over_13 (by decide) ?_ ?_
    · refine ge_sub [0] rfl ?_
      exact hj21 m6
    · refine ge_iload_n 1 DX11_over_16 rfl ?_
      refine ge_iload_n 2 DX11_over_17 rfl ?_
      refine ge_icmp_ne (tgt := 29) DX11_over_18 (by decide) ?_ ?_
      · refine ge_sub [0] rfl ?_
        exact hj21 m6
      · refine ge_aload_n 0 DX11_over_29 rfl ?_
        refine ge_iload_n 1 DX11_over_30 rfl ?_
        refine ge_iload_n 2 DX11_over_31 rfl ?_
        refine ge_callVi0 (st := []) cm_X11_134 DX11_over_32 is_362 rfl (okX11_isOver (kl K) X m6 a1 a2) rfl rfl (Nat.le_of_ble_eq_true rfl) (by decide) ⟨rfl, rfl⟩ ⟨Nat.zero_le _, Nat.zero_le _⟩ (fun r9 m8 => ?_)
        refine ge_if_eq (tgt := 42) DX11_over_35 (by decide) ?_ ?_
        · refine ge_iconst (v := (0 : Int32)) DX11_over_42 rfl ?_
          exact ge_iret rfl DX11_over_43
        · refine ge_iconst (v := (1 : Int32)) DX11_over_38 rfl ?_
          refine ge_goto (tgt := 43) DX11_over_39 (by decide) ?_
          exact ge_iret rfl DX11_over_43
abbrev gX11_asked (K : Kt) (X : Xt) := GE (R := Int32) K rmX11_asked X cX11_asked 2 RX11 (some .int) (finM K X ιI 0 0)
set_option maxHeartbeats 4000000 in
set_option maxRecDepth 100000 in
theorem okX11_asked (l : Launch) (X : Xt) (m0 : Mem) (a1 : Int32) : Ct l yX11_asked cX11_asked 2 (some .int) rmX11_asked ιI X [.ref (xad X 362), .int a1] m0 (fX11_asked m0 a1) := by
  refine ct_of (own := RX11) (ls := [(0, .ref (xad X 362)), (1, .int a1)]) (by decide) rfl rfl (Nat.le_of_ble_eq_true rfl) (fun K => ?_)
  show gX11_asked K X 0 0 0 [(0, .ref (xad X 362)), (1, .int a1)] [] m0 (fX11_asked m0 a1)
  delta fX11_asked
  refine ge_aload_n 0 DX11_asked_0 rfl ?_
  refine ge_iload_n 1 DX11_asked_1 rfl ?_
  refine ge_callVi0 (st := []) cm_X11_206 DX11_asked_2 is_362 rfl (okX11_isForm (kl K) X m0 a1) rfl rfl (Nat.le_of_ble_eq_true rfl) (by decide) ⟨rfl, rfl⟩ ⟨Nat.zero_le _, Nat.zero_le _⟩ (fun r2 m1 => ?_)
  refine ge_if_eq (tgt := 12) DX11_asked_5 (by decide) ?_ ?_
  · refine ge_iload_n 1 DX11_asked_12 rfl ?_
    refine ge_bipush (v := (12 : Int32)) DX11_asked_13 rfl ?_
    refine ge_icmp_ne (tgt := 22) DX11_asked_15 (by decide) ?_ ?_
    · refine ge_iconst (v := (-1 : Int32)) DX11_asked_18 rfl ?_
      refine ge_goto (tgt := 35) DX11_asked_19 (by decide) ?_
      exact ge_iret rfl DX11_asked_35
    · refine ge_iload_n 1 DX11_asked_22 rfl ?_
      refine ge_bipush (v := (13 : Int32)) DX11_asked_23 rfl ?_
      refine ge_icmp_ne (tgt := 33) DX11_asked_25 (by decide) ?_ ?_
      · refine ge_bipush (v := (-2 : Int32)) DX11_asked_28 rfl ?_
        refine ge_goto (tgt := 35) DX11_asked_30 (by decide) ?_
        exact ge_iret rfl DX11_asked_35
      · refine ge_bipush (v := (-9 : Int32)) DX11_asked_33 rfl ?_
        exact ge_iret rfl DX11_asked_35
  · refine ge_iload_n 1 DX11_asked_8 rfl ?_
    refine ge_goto (tgt := 35) DX11_asked_9 (by decide) ?_
    exact ge_iret rfl DX11_asked_35
abbrev gX11_many (K : Kt) (X : Xt) := GE (R := Int32) K rmX11_many X cX11_many 4 RX11 (some .int) (finM K X ιI 1 12)
set_option maxHeartbeats 4000000 in
set_option maxRecDepth 100000 in
theorem lX11_many_L26 (K : Kt) (X : Xt) (hX : xn X = 385) (cE sE : Nat) {k61 : Mem → Int32 → Option (Int32 × Mem)} (y7 : Int32)  (hk61 : ∀ (m10 : Mem) (x11 : Int32), gX11_many K X cE sE 61 [(2, .int x11)] [] m10 (k61 m10 x11)) (hcE : cE ≤ 1) (hsE : sE ≤ 12) :
    ∀ (n c0 s0 : Nat), c0 + n * 0 ≤ cE → s0 + n * 0 ≤ sE → ∀ (m6 : Mem) (x8 : Int32) (x9 : Int32), gX11_many K X c0 s0 26 [(0, .ref (xad X 362)), (1, .int y7), (2, .int x8), (3, .int x9)] [] m6 (fX11_many_L26 k61 y7 n m6 x8 x9) := by
  intro n
  induction n with
  | zero => intro c0 s0 h1 h2 m6 x8 x9; exact ge_none
  | succ n ih =>
    intro c0 s0 h1 h2 m6 x8 x9
    show gX11_many K X c0 s0 26 [(0, .ref (xad X 362)), (1, .int y7), (2, .int x8), (3, .int x9)] [] m6 (fX11_many_L26_b k61 y7 (fX11_many_L26 k61 y7 n) m6 x8 x9)
    delta fX11_many_L26_b
    refine ge_iload_n 3 DX11_many_26 rfl ?_
    refine ge_sipush (v := (4096 : Int32)) DX11_many_27 rfl ?_
    refine ge_icmp_ge (tgt := 61) DX11_many_30 (by decide) ?_ ?_
    · refine ge_iload_n 2 DX11_many_33 rfl ?_
      refine ge_aload_n 0 DX11_many_34 rfl ?_
      refine ge_getR (i := 372) DX11_many_35 fl_X11_37 is_362 (by decide) rfl ?_
      refine ge_iload_n 3 DX11_many_38 rfl ?_
      refine ge_iald DX11_many_39 is_372 al_372 ?_
      refine ge_aload_n 0 DX11_many_40 rfl ?_
      refine ge_iload_n 1 DX11_many_41 rfl ?_
      refine ge_callVi0 (st := [.int (m6 372 (ix x9)), .int x8]) cm_X11_235 DX11_many_42 is_362 rfl (okX11_asked (kl K) X m6 y7) rfl rfl (Nat.le_of_ble_eq_true rfl) (by decide) ⟨rfl, rfl⟩ ⟨by show _ ≤ (1 : Nat); omega, by show _ ≤ (12 : Nat); omega⟩ (fun r15 m14 => ?_)
      refine ge_jn (P := fun k => ∀ (v16 : Int32), gX11_many K X c0 s0 53 [(0, .ref (xad X 362)), (1, .int y7), (3, .int x9)] [.int v16, .int x8] m14 (k v16)) (fun v16 => ?_) (fun j53 hj53 => ?_)
      · refine ge_iadd DX11_many_53 ?_
        refine ge_topi (fun x17 => ?_)
        refine ge_istore_n (ls' := [(2, .int x17), (0, .ref (xad X 362)), (1, .int y7), (3, .int x9)]) DX11_many_54 (by decide) rfl ?_
        refine ge_iinc 3 (v := (x9 + (1 : Int32))) (ls' := [(3, .int (x9 + (1 : Int32))), (2, .int x17), (0, .ref (xad X 362)), (1, .int y7)]) DX11_many_55 rfl rfl (by decide) rfl ?_
        refine ge_goto (tgt := 26) DX11_many_58 (by decide) ?_
        refine ge_sub [2, 3, 1, 0] rfl ?_
        exact ih _ _ (by omega) (by omega) m14 x17 (x9 + (1 : Int32))
      refine ge_icmp_ne (tgt := 52) DX11_many_45 (by decide) ?_ ?_
      · refine ge_iconst (v := (1 : Int32)) DX11_many_48 rfl ?_
        refine ge_goto (tgt := 53) DX11_many_49 (by decide) ?_
        refine ge_sub [0, 1, 3] rfl ?_
        exact hj53 (1 : Int32)
      · refine ge_iconst (v := (0 : Int32)) DX11_many_52 rfl ?_
        refine ge_sub [0, 1, 3] rfl ?_
        exact hj53 (0 : Int32)
    · refine ge_widen (cells' := cE) (slots' := sE) (by omega) (by omega) ?_
      refine ge_sub [2] rfl ?_
      exact hk61 m6 x8
set_option maxHeartbeats 4000000 in
set_option maxRecDepth 100000 in
theorem okX11_many (l : Launch) (X : Xt) (hX : xn X = 385) (m0 : Mem) (a1 : Int32) : Ct l yX11_many cX11_many 4 (some .int) rmX11_many ιI X [.ref (xad X 362), .int a1] m0 (fX11_many m0 a1) := by
  refine ct_of (own := RX11) (ls := [(0, .ref (xad X 362)), (1, .int a1)]) (by decide) rfl rfl (Nat.le_of_ble_eq_true rfl) (fun K => ?_)
  show gX11_many K X 0 0 0 [(0, .ref (xad X 362)), (1, .int a1)] [] m0 (fX11_many m0 a1)
  delta fX11_many
  refine ge_aload_n 0 DX11_many_0 rfl ?_
  refine ge_iload_n 1 DX11_many_1 rfl ?_
  refine ge_callVi0 (st := []) cm_X11_235 DX11_many_2 is_362 rfl (okX11_asked (kl K) X m0 a1) rfl rfl (Nat.le_of_ble_eq_true rfl) (by decide) ⟨rfl, rfl⟩ ⟨by show _ ≤ (1 : Nat); omega, by show _ ≤ (12 : Nat); omega⟩ (fun r2 m1 => ?_)
  refine ge_bipush (v := (-9 : Int32)) DX11_many_5 rfl ?_
  refine ge_icmp_ne (tgt := 18) DX11_many_7 (by decide) ?_ ?_
  · refine ge_aload_n 0 DX11_many_10 rfl ?_
    refine ge_sipush (v := (-1001 : Int32)) DX11_many_11 rfl ?_
    refine ge_callVi0 (st := []) cm_X11_145 DX11_many_14 is_362 rfl (okX11_refuse (kl K) X m1 (-1001 : Int32)) rfl rfl (Nat.le_of_ble_eq_true rfl) (by decide) ⟨rfl, rfl⟩ ⟨by show _ ≤ (1 : Nat); omega, by show _ ≤ (12 : Nat); omega⟩ (fun r4 m3 => ?_)
    refine ge_widen (cells' := 1) (slots' := 12) (by omega) (by omega) ?_
    exact ge_iret rfl DX11_many_17
  · refine ge_aload_n 0 DX11_many_18 rfl ?_
    refine ge_callVvA (st := []) cm_X11_140 DX11_many_19 is_362 rfl (okX11_looks (kl K) X hX m1) rfl rfl (Nat.le_of_ble_eq_true rfl) (by decide) (dc := 1) (ds := 12) ⟨rfl, rfl⟩ ⟨by show _ + 1 ≤ (1 : Nat); omega, by show _ + 12 ≤ (12 : Nat); omega⟩ (fun m5 => ?_)
    refine ge_iconst (v := (0 : Int32)) DX11_many_22 rfl ?_
    refine ge_istore_n (ls' := [(2, .int (0 : Int32)), (0, .ref (xad X 362)), (1, .int a1)]) DX11_many_23 (by decide) rfl ?_
    refine ge_iconst (v := (0 : Int32)) DX11_many_24 rfl ?_
    refine ge_istore_n (ls' := [(3, .int (0 : Int32)), (2, .int (0 : Int32)), (0, .ref (xad X 362)), (1, .int a1)]) DX11_many_25 (by decide) rfl ?_
    refine ge_sub [2, 3, 1, 0] rfl ?_
    refine lX11_many_L26 K X hX (((0 + 1) + 5000 * 0)) (((0 + 12) + 5000 * 0)) a1 (fun m12 x13 => ?_) (by omega) (by omega) 5000 _ _ (by omega) (by omega) m5 (0 : Int32) (0 : Int32)
    · refine ge_iload_n 0 DX11_many_61 rfl ?_
      refine ge_widen (cells' := 1) (slots' := 12) (by omega) (by omega) ?_
      exact ge_iret rfl DX11_many_62
abbrev gX11_covers (K : Kt) (X : Xt) := GE (R := Int64) K rmX11_covers X cX11_covers 6 RX11 (some .long) (finM K X ιL 1 12)
set_option maxHeartbeats 4000000 in
set_option maxRecDepth 100000 in
theorem lX11_covers_L31 (K : Kt) (X : Xt) {k71 : Int64 → Option (Int64 × Mem)} (m6 : Mem) (y7 : Int32) (y8 : Int32)  (hk71 : ∀ (x11 : Int64), gX11_covers K X (0 + 1) (0 + 12) 71 [(3, .long x11)] [] m6 (k71 x11)) :
    ∀ (n : Nat) (x9 : Int64) (x10 : Int32), gX11_covers K X (0 + 1) (0 + 12) 31 [(0, .ref (xad X 362)), (1, .int y7), (2, .int y8), (3, .long x9), (5, .int x10)] [] m6 (fX11_covers_L31 k71 m6 y7 y8 n x9 x10) := by
  intro n
  induction n with
  | zero => intro x9 x10; exact ge_none
  | succ n ih =>
    intro x9 x10
    show gX11_covers K X (0 + 1) (0 + 12) 31 [(0, .ref (xad X 362)), (1, .int y7), (2, .int y8), (3, .long x9), (5, .int x10)] [] m6 (fX11_covers_L31_b k71 m6 y7 y8 (fX11_covers_L31 k71 m6 y7 y8 n) x9 x10)
    delta fX11_covers_L31_b
    refine ge_iload 4 DX11_covers_31 rfl ?_
    refine ge_bipush (v := (64 : Int32)) DX11_covers_33 rfl ?_
    refine ge_icmp_ge (tgt := 71) DX11_covers_35 (by decide) ?_ ?_
    · refine ge_lload_n 3 DX11_covers_38 rfl ?_
      refine ge_aload_n 0 DX11_covers_39 rfl ?_
      refine ge_getR (i := 372) DX11_covers_40 fl_X11_37 is_362 (by decide) rfl ?_
      refine ge_bipush (v := (64 : Int32)) DX11_covers_43 rfl ?_
      refine ge_iload_n 2 DX11_covers_45 rfl ?_
      refine ge_imul DX11_covers_46 ?_
      refine ge_iload 4 DX11_covers_47 rfl ?_
      refine ge_iadd DX11_covers_49 ?_
      refine ge_iald DX11_covers_50 is_372 al_372 ?_
      refine ge_iload_n 1 DX11_covers_51 rfl ?_
      refine ge_jn (P := fun k => ∀ (v13 : Int64), gX11_covers K X (0 + 1) (0 + 12) 63 [(0, .ref (xad X 362)), (1, .int y7), (2, .int y8), (5, .int x10)] [.long v13, .long x9] m6 (k v13)) (fun v13 => ?_) (fun j63 hj63 => ?_)
      · refine ge_lor DX11_covers_63 ?_
        refine ge_topl (fun x14 => ?_)
        refine ge_lstore_n (ls' := [(3, .long x14), (0, .ref (xad X 362)), (1, .int y7), (2, .int y8), (5, .int x10)]) DX11_covers_64 (by decide) rfl ?_
        refine ge_iinc 4 (v := (x10 + (1 : Int32))) (ls' := [(5, .int (x10 + (1 : Int32))), (3, .long x14), (0, .ref (xad X 362)), (1, .int y7), (2, .int y8)]) DX11_covers_65 rfl rfl (by decide) rfl ?_
        refine ge_goto (tgt := 31) DX11_covers_68 (by decide) ?_
        refine ge_sub [2, 3, 4, 1, 0] rfl ?_
        exact ih x14 (x10 + (1 : Int32))
      refine ge_icmp_ne (tgt := 62) DX11_covers_52 (by decide) ?_ ?_
      · refine ge_lconst (v := (1 : Int64)) DX11_covers_55 rfl ?_
        refine ge_iload 4 DX11_covers_56 rfl ?_
        refine ge_lshl DX11_covers_58 ?_
        refine ge_goto (tgt := 63) DX11_covers_59 (by decide) ?_
        refine ge_sub [0, 1, 2, 4] rfl ?_
        exact hj63 ((1 : Int64) <<< ((x10).toInt64 &&& 63))
      · refine ge_lconst (v := (0 : Int64)) DX11_covers_62 rfl ?_
        refine ge_sub [0, 1, 2, 4] rfl ?_
        exact hj63 (0 : Int64)
    · refine ge_sub [3] rfl ?_
      exact hk71 x9
set_option maxHeartbeats 4000000 in
set_option maxRecDepth 100000 in
theorem okX11_covers (l : Launch) (X : Xt) (hX : xn X = 385) (m0 : Mem) (a1 : Int32) (a2 : Int32) : Ct l yX11_covers cX11_covers 6 (some .long) rmX11_covers ιL X [.ref (xad X 362), .int a1, .int a2] m0 (fX11_covers m0 a1 a2) := by
  refine ct_of (own := RX11) (ls := [(0, .ref (xad X 362)), (1, .int a1), (2, .int a2)]) (by decide) rfl rfl (Nat.le_of_ble_eq_true rfl) (fun K => ?_)
  show gX11_covers K X 0 0 0 [(0, .ref (xad X 362)), (1, .int a1), (2, .int a2)] [] m0 (fX11_covers m0 a1 a2)
  delta fX11_covers
  refine ge_aload_n 0 DX11_covers_0 rfl ?_
  refine ge_iload_n 1 DX11_covers_1 rfl ?_
  refine ge_callVi0 (st := []) cm_X11_206 DX11_covers_2 is_362 rfl (okX11_isForm (kl K) X m0 a1) rfl rfl (Nat.le_of_ble_eq_true rfl) (by decide) ⟨rfl, rfl⟩ ⟨by show _ ≤ (1 : Nat); omega, by show _ ≤ (12 : Nat); omega⟩ (fun r2 m1 => ?_)
  refine ge_if_eq (tgt := 20) DX11_covers_5 (by decide) ?_ ?_
  · refine ge_lconst (v := (0 : Int64)) DX11_covers_20 rfl ?_
    refine ge_widen (cells' := 1) (slots' := 12) (by omega) (by omega) ?_
    exact ge_lret rfl DX11_covers_21
  · refine ge_iload_n 2 DX11_covers_8 rfl ?_
    refine ge_i2l DX11_covers_9 ?_
    refine ge_lconst (v := (0 : Int64)) DX11_covers_10 rfl ?_
    refine ge_ldc2 (v := (63 : Int64)) kw_X11_238 DX11_covers_11 ?_
    refine ge_callSi0 (st := []) cm_X11_89 DX11_covers_14 (okX11_isIn (kl K) X m1 ((a2).toInt64) (0 : Int64) (63 : Int64)) rfl rfl (Nat.le_of_ble_eq_true rfl) (by decide) ⟨rfl, rfl⟩ ⟨by show _ ≤ (1 : Nat); omega, by show _ ≤ (12 : Nat); omega⟩ (fun r4 m3 => ?_)
    refine ge_if_ne (tgt := 22) DX11_covers_17 (by decide) ?_ ?_
    · refine ge_lconst (v := (0 : Int64)) DX11_covers_20 rfl ?_
      refine ge_widen (cells' := 1) (slots' := 12) (by omega) (by omega) ?_
      exact ge_lret rfl DX11_covers_21
    · refine ge_aload_n 0 DX11_covers_22 rfl ?_
      refine ge_callVvA (st := []) cm_X11_140 DX11_covers_23 is_362 rfl (okX11_looks (kl K) X hX m3) rfl rfl (Nat.le_of_ble_eq_true rfl) (by decide) (dc := 1) (ds := 12) ⟨rfl, rfl⟩ ⟨by show _ + 1 ≤ (1 : Nat); omega, by show _ + 12 ≤ (12 : Nat); omega⟩ (fun m5 => ?_)
      refine ge_lconst (v := (0 : Int64)) DX11_covers_26 rfl ?_
      refine ge_lstore_n (ls' := [(3, .long (0 : Int64)), (0, .ref (xad X 362)), (1, .int a1), (2, .int a2)]) DX11_covers_27 (by decide) rfl ?_
      refine ge_iconst (v := (0 : Int32)) DX11_covers_28 rfl ?_
      refine ge_istore (ls' := [(5, .int (0 : Int32)), (3, .long (0 : Int64)), (0, .ref (xad X 362)), (1, .int a1), (2, .int a2)]) DX11_covers_29 (by decide) rfl ?_
      refine ge_sub [2, 3, 4, 1, 0] rfl ?_
      refine lX11_covers_L31 K X m5 a1 a2 (fun x12 => ?_) 5000 (0 : Int64) (0 : Int32)
      · refine ge_lload_n 0 DX11_covers_71 rfl ?_
        refine ge_widen (cells' := 1) (slots' := 12) (by omega) (by omega) ?_
        exact ge_lret rfl DX11_covers_72
abbrev gX11_next (K : Kt) (X : Xt) := GE (R := Int32) K rmX11_next X cX11_next 4 RX11 (some .int) (finM K X ιI 1 12)
set_option maxHeartbeats 4000000 in
set_option maxRecDepth 100000 in
theorem lX11_next_L40 (K : Kt) (X : Xt) (hX : xn X = 385) (cE sE : Nat) {k61 : Mem → Int32 → Option (Int32 × Mem)} {k69 : Mem → Option (Int32 × Mem)} (y11 : Int32)  (hk61 : ∀ (m13 : Mem) (x14 : Int32), gX11_next K X cE sE 61 [(3, .int x14)] [] m13 (k61 m13 x14)) (hk69 : ∀ (m17 : Mem), gX11_next K X cE sE 69 [] [] m17 (k69 m17)) (hcE : cE ≤ 1) (hsE : sE ≤ 12) :
    ∀ (n c0 s0 : Nat), c0 + n * 0 ≤ cE → s0 + n * 0 ≤ sE → ∀ (m10 : Mem) (x12 : Int32), gX11_next K X c0 s0 40 [(0, .ref (xad X 362)), (1, .int y11), (3, .int x12)] [] m10 (fX11_next_L40 k61 k69 y11 n m10 x12) := by
  intro n
  induction n with
  | zero => intro c0 s0 h1 h2 m10 x12; exact ge_none
  | succ n ih =>
    intro c0 s0 h1 h2 m10 x12
    show gX11_next K X c0 s0 40 [(0, .ref (xad X 362)), (1, .int y11), (3, .int x12)] [] m10 (fX11_next_L40_b k61 k69 y11 (fX11_next_L40 k61 k69 y11 n) m10 x12)
    delta fX11_next_L40_b
    refine ge_iload_n 2 DX11_next_40 rfl ?_
    refine ge_sipush (v := (4096 : Int32)) DX11_next_41 rfl ?_
    refine ge_icmp_ge (tgt := 69) DX11_next_44 (by decide) ?_ ?_
    · refine ge_aload_n 0 DX11_next_47 rfl ?_
      refine ge_getR (i := 372) DX11_next_48 fl_X11_37 is_362 (by decide) rfl ?_
      refine ge_iload_n 2 DX11_next_51 rfl ?_
      refine ge_iald DX11_next_52 is_372 al_372 ?_
      refine ge_aload_n 0 DX11_next_53 rfl ?_
      refine ge_iload_n 1 DX11_next_54 rfl ?_
      refine ge_callVi0 (st := [.int (m10 372 (ix x12))]) cm_X11_235 DX11_next_55 is_362 rfl (okX11_asked (kl K) X m10 y11) rfl rfl (Nat.le_of_ble_eq_true rfl) (by decide) ⟨rfl, rfl⟩ ⟨by show _ ≤ (1 : Nat); omega, by show _ ≤ (12 : Nat); omega⟩ (fun r20 m19 => ?_)
      refine ge_icmp_ne (tgt := 63) DX11_next_58 (by decide) ?_ ?_
      · refine ge_widen (cells' := cE) (slots' := sE) (by omega) (by omega) ?_
        refine ge_sub [2] rfl ?_
        exact hk61 m19 x12
      · refine ge_iinc 2 (v := (x12 + (1 : Int32))) (ls' := [(3, .int (x12 + (1 : Int32))), (0, .ref (xad X 362)), (1, .int y11)]) DX11_next_63 rfl rfl (by decide) rfl ?_
        refine ge_goto (tgt := 40) DX11_next_66 (by decide) ?_
        refine ge_sub [1, 2, 0] rfl ?_
        exact ih _ _ (by omega) (by omega) m19 (x12 + (1 : Int32))
    · refine ge_widen (cells' := cE) (slots' := sE) (by omega) (by omega) ?_
      refine ge_sub [] rfl ?_
      exact hk69 m10
set_option maxHeartbeats 4000000 in
set_option maxRecDepth 100000 in
theorem okX11_next (l : Launch) (X : Xt) (hX : xn X = 385) (m0 : Mem) (a1 : Int32) (a2 : Int32) : Ct l yX11_next cX11_next 4 (some .int) rmX11_next ιI X [.ref (xad X 362), .int a1, .int a2] m0 (fX11_next m0 a1 a2) := by
  refine ct_of (own := RX11) (ls := [(0, .ref (xad X 362)), (1, .int a1), (2, .int a2)]) (by decide) rfl rfl (Nat.le_of_ble_eq_true rfl) (fun K => ?_)
  show gX11_next K X 0 0 0 [(0, .ref (xad X 362)), (1, .int a1), (2, .int a2)] [] m0 (fX11_next m0 a1 a2)
  delta fX11_next
  refine ge_aload_n 0 DX11_next_0 rfl ?_
  refine ge_iload_n 1 DX11_next_1 rfl ?_
  refine ge_callVi0 (st := []) cm_X11_235 DX11_next_2 is_362 rfl (okX11_asked (kl K) X m0 a1) rfl rfl (Nat.le_of_ble_eq_true rfl) (by decide) ⟨rfl, rfl⟩ ⟨by show _ ≤ (1 : Nat); omega, by show _ ≤ (12 : Nat); omega⟩ (fun r2 m1 => ?_)
  refine ge_bipush (v := (-9 : Int32)) DX11_next_5 rfl ?_
  refine ge_jn (P := fun k => ∀ (m3 : Mem), gX11_next K X 0 0 24 [(0, .ref (xad X 362))] [] m3 (k m3)) (fun m3 => ?_) (fun j24 hj24 => ?_)
  · refine ge_aload_n 0 DX11_next_24 rfl ?_
    refine ge_sipush (v := (-1001 : Int32)) DX11_next_25 rfl ?_
    refine ge_callVi0 (st := []) cm_X11_145 DX11_next_28 is_362 rfl (okX11_refuse (kl K) X m3 (-1001 : Int32)) rfl rfl (Nat.le_of_ble_eq_true rfl) (by decide) ⟨rfl, rfl⟩ ⟨by show _ ≤ (1 : Nat); omega, by show _ ≤ (12 : Nat); omega⟩ (fun r5 m4 => ?_)
    refine ge_widen (cells' := 1) (slots' := 12) (by omega) (by omega) ?_
    exact ge_iret rfl DX11_next_31
  refine ge_icmp_eq (tgt := 24) DX11_next_7 (by decide) ?_ ?_
  · refine ge_widen (cells' := 0) (slots' := 0) (by omega) (by omega) ?_
    refine ge_sub [0] rfl ?_
    exact hj24 m1
  · refine ge_iload_n 2 DX11_next_10 rfl ?_
    refine ge_i2l DX11_next_11 ?_
    refine ge_ldc2 (v := (-1 : Int64)) kw_X11_219 DX11_next_12 ?_
    refine ge_ldc2 (v := (4095 : Int64)) kw_X11_240 DX11_next_15 ?_
    refine ge_callSi0 (st := []) cm_X11_89 DX11_next_18 (okX11_isIn (kl K) X m1 ((a2).toInt64) (-1 : Int64) (4095 : Int64)) rfl rfl (Nat.le_of_ble_eq_true rfl) (by decide) ⟨rfl, rfl⟩ ⟨by show _ ≤ (1 : Nat); omega, by show _ ≤ (12 : Nat); omega⟩ (fun r7 m6 => ?_)
    refine ge_if_ne (tgt := 32) DX11_next_21 (by decide) ?_ ?_
    · refine ge_widen (cells' := 0) (slots' := 0) (by omega) (by omega) ?_
      refine ge_sub [0] rfl ?_
      exact hj24 m6
    · refine ge_aload_n 0 DX11_next_32 rfl ?_
      refine ge_callVvA (st := []) cm_X11_140 DX11_next_33 is_362 rfl (okX11_looks (kl K) X hX m6) rfl rfl (Nat.le_of_ble_eq_true rfl) (by decide) (dc := 1) (ds := 12) ⟨rfl, rfl⟩ ⟨by show _ + 1 ≤ (1 : Nat); omega, by show _ + 12 ≤ (12 : Nat); omega⟩ (fun m8 => ?_)
      refine ge_iload_n 2 DX11_next_36 rfl ?_
      refine ge_iconst (v := (1 : Int32)) DX11_next_37 rfl ?_
      refine ge_iadd DX11_next_38 ?_
      refine ge_topi (fun x9 => ?_)
      refine ge_istore_n (ls' := [(3, .int x9), (0, .ref (xad X 362)), (1, .int a1), (2, .int a2)]) DX11_next_39 (by decide) rfl ?_
      refine ge_sub [1, 2, 0] rfl ?_
      refine lX11_next_L40 K X hX (((0 + 1) + 5000 * 0)) (((0 + 12) + 5000 * 0)) a1 (fun m15 x16 => ?_) (fun m18 => ?_) (by omega) (by omega) 5000 _ _ (by omega) (by omega) m8 x9
      · refine ge_iload_n 0 DX11_next_61 rfl ?_
        refine ge_widen (cells' := 1) (slots' := 12) (by omega) (by omega) ?_
        exact ge_iret rfl DX11_next_62
      · refine ge_iconst (v := (-1 : Int32)) DX11_next_69 rfl ?_
        refine ge_widen (cells' := 1) (slots' := 12) (by omega) (by omega) ?_
        exact ge_iret rfl DX11_next_70
abbrev gX11_witness (K : Kt) (X : Xt) := GE (R := Int32) K rmX11_witness X cX11_witness 4 RX11 (some .int) (finM K X ιI 1 12)
set_option maxHeartbeats 4000000 in
set_option maxRecDepth 100000 in
theorem lX11_witness_L6 (K : Kt) (X : Xt) (hX : xn X = 385) (cE sE : Nat) {k50 : Mem → Int32 → Option (Int32 × Mem)} {k58 : Mem → Option (Int32 × Mem)} (y3 : Int32) (y4 : Int32)  (hk50 : ∀ (m6 : Mem) (x7 : Int32), gX11_witness K X cE sE 50 [(3, .int x7)] [] m6 (k50 m6 x7)) (hk58 : ∀ (m10 : Mem), gX11_witness K X cE sE 58 [] [] m10 (k58 m10)) (hcE : cE ≤ 1) (hsE : sE ≤ 12) :
    ∀ (n c0 s0 : Nat), c0 + n * 0 ≤ cE → s0 + n * 0 ≤ sE → ∀ (m2 : Mem) (x5 : Int32), gX11_witness K X c0 s0 6 [(0, .ref (xad X 362)), (1, .int y3), (2, .int y4), (3, .int x5)] [] m2 (fX11_witness_L6 k50 k58 y3 y4 n m2 x5) := by
  intro n
  induction n with
  | zero => intro c0 s0 h1 h2 m2 x5; exact ge_none
  | succ n ih =>
    intro c0 s0 h1 h2 m2 x5
    show gX11_witness K X c0 s0 6 [(0, .ref (xad X 362)), (1, .int y3), (2, .int y4), (3, .int x5)] [] m2 (fX11_witness_L6_b k50 k58 y3 y4 (fX11_witness_L6 k50 k58 y3 y4 n) m2 x5)
    delta fX11_witness_L6_b
    refine ge_iload_n 3 DX11_witness_6 rfl ?_
    refine ge_sipush (v := (4096 : Int32)) DX11_witness_7 rfl ?_
    refine ge_icmp_ge (tgt := 58) DX11_witness_10 (by decide) ?_ ?_
    · refine ge_aload_n 0 DX11_witness_13 rfl ?_
      refine ge_getR (i := 372) DX11_witness_14 fl_X11_37 is_362 (by decide) rfl ?_
      refine ge_iload_n 3 DX11_witness_17 rfl ?_
      refine ge_iald DX11_witness_18 is_372 al_372 ?_
      refine ge_bipush (v := (-2 : Int32)) DX11_witness_19 rfl ?_
      refine ge_jn (P := fun k => ∀ (m12 : Mem), gX11_witness K X c0 s0 52 [(0, .ref (xad X 362)), (1, .int y3), (2, .int y4), (3, .int x5)] [] m12 (k m12)) (fun m12 => ?_) (fun j52 hj52 => ?_)
      · refine ge_iinc 3 (v := (x5 + (1 : Int32))) (ls' := [(3, .int (x5 + (1 : Int32))), (0, .ref (xad X 362)), (1, .int y3), (2, .int y4)]) DX11_witness_52 rfl rfl (by decide) rfl ?_
        refine ge_goto (tgt := 6) DX11_witness_55 (by decide) ?_
        refine ge_sub [1, 2, 3, 0] rfl ?_
        exact ih _ _ (by omega) (by omega) m12 (x5 + (1 : Int32))
      refine ge_icmp_ne (tgt := 52) DX11_witness_21 (by decide) ?_ ?_
      · refine ge_aload_n 0 DX11_witness_24 rfl ?_
        refine ge_getR (i := 371) DX11_witness_25 fl_X11_34 is_362 (by decide) rfl ?_
        refine ge_iload_n 3 DX11_witness_28 rfl ?_
        refine ge_iald DX11_witness_29 is_371 al_371 ?_
        refine ge_iload_n 1 DX11_witness_30 rfl ?_
        refine ge_callSi0 (st := []) cm_X11_100 DX11_witness_31 (okX11_has (kl K) X m2 (m2 371 (ix x5)) y3) rfl rfl (Nat.le_of_ble_eq_true rfl) (by decide) ⟨rfl, rfl⟩ ⟨by show _ ≤ (1 : Nat); omega, by show _ ≤ (12 : Nat); omega⟩ (fun r14 m13 => ?_)
        refine ge_if_eq (tgt := 52) DX11_witness_34 (by decide) ?_ ?_
        · refine ge_widen (cells' := c0) (slots' := s0) (by omega) (by omega) ?_
          exact hj52 m13
        · refine ge_aload_n 0 DX11_witness_37 rfl ?_
          refine ge_getR (i := 371) DX11_witness_38 fl_X11_34 is_362 (by decide) rfl ?_
          refine ge_iload_n 3 DX11_witness_41 rfl ?_
          refine ge_iald DX11_witness_42 is_371 al_371 ?_
          refine ge_iload_n 2 DX11_witness_43 rfl ?_
          refine ge_callSi0 (st := []) cm_X11_100 DX11_witness_44 (okX11_has (kl K) X m13 (m13 371 (ix x5)) y4) rfl rfl (Nat.le_of_ble_eq_true rfl) (by decide) ⟨rfl, rfl⟩ ⟨by show _ ≤ (1 : Nat); omega, by show _ ≤ (12 : Nat); omega⟩ (fun r16 m15 => ?_)
          refine ge_if_eq (tgt := 52) DX11_witness_47 (by decide) ?_ ?_
          · refine ge_widen (cells' := c0) (slots' := s0) (by omega) (by omega) ?_
            exact hj52 m15
          · refine ge_widen (cells' := cE) (slots' := sE) (by omega) (by omega) ?_
            refine ge_sub [3] rfl ?_
            exact hk50 m15 x5
      · refine ge_widen (cells' := c0) (slots' := s0) (by omega) (by omega) ?_
        exact hj52 m2
    · refine ge_widen (cells' := cE) (slots' := sE) (by omega) (by omega) ?_
      refine ge_sub [] rfl ?_
      exact hk58 m2
set_option maxHeartbeats 4000000 in
set_option maxRecDepth 100000 in
theorem okX11_witness (l : Launch) (X : Xt) (hX : xn X = 385) (m0 : Mem) (a1 : Int32) (a2 : Int32) : Ct l yX11_witness cX11_witness 4 (some .int) rmX11_witness ιI X [.ref (xad X 362), .int a1, .int a2] m0 (fX11_witness m0 a1 a2) := by
  refine ct_of (own := RX11) (ls := [(0, .ref (xad X 362)), (1, .int a1), (2, .int a2)]) (by decide) rfl rfl (Nat.le_of_ble_eq_true rfl) (fun K => ?_)
  show gX11_witness K X 0 0 0 [(0, .ref (xad X 362)), (1, .int a1), (2, .int a2)] [] m0 (fX11_witness m0 a1 a2)
  delta fX11_witness
  refine ge_aload_n 0 DX11_witness_0 rfl ?_
  refine ge_callVvA (st := []) cm_X11_140 DX11_witness_1 is_362 rfl (okX11_looks (kl K) X hX m0) rfl rfl (Nat.le_of_ble_eq_true rfl) (by decide) (dc := 1) (ds := 12) ⟨rfl, rfl⟩ ⟨by show _ + 1 ≤ (1 : Nat); omega, by show _ + 12 ≤ (12 : Nat); omega⟩ (fun m1 => ?_)
  refine ge_iconst (v := (0 : Int32)) DX11_witness_4 rfl ?_
  refine ge_istore_n (ls' := [(3, .int (0 : Int32)), (0, .ref (xad X 362)), (1, .int a1), (2, .int a2)]) DX11_witness_5 (by decide) rfl ?_
  refine ge_sub [1, 2, 3, 0] rfl ?_
  refine lX11_witness_L6 K X hX (((0 + 1) + 5000 * 0)) (((0 + 12) + 5000 * 0)) a1 a2 (fun m8 x9 => ?_) (fun m11 => ?_) (by omega) (by omega) 5000 _ _ (by omega) (by omega) m1 (0 : Int32)
  · refine ge_iload_n 0 DX11_witness_50 rfl ?_
    refine ge_widen (cells' := 1) (slots' := 12) (by omega) (by omega) ?_
    exact ge_iret rfl DX11_witness_51
  · refine ge_iconst (v := (-1 : Int32)) DX11_witness_58 rfl ?_
    refine ge_widen (cells' := 1) (slots' := 12) (by omega) (by omega) ?_
    exact ge_iret rfl DX11_witness_59
abbrev gX11_clash (K : Kt) (X : Xt) := GE (R := Int32) K rmX11_clash X cX11_clash 7 RX11 (some .int) (finM K X ιI 169 2028)
set_option maxHeartbeats 4000000 in
set_option maxRecDepth 100000 in
theorem lX11_clash_L42 (K : Kt) (X : Xt) (hX : xn X = 385) (cE sE : Nat) {k71 : Mem → Int32 → Int32 → Option (Int32 × Mem)} {k108 : Mem → Int32 → Option (Int32 × Mem)} (y23 : Int32) (y24 : Int32) (y26 : Int32)  (hk71 : ∀ (m28 : Mem) (x29 : Int32) (x30 : Int32), gX11_clash K X cE sE 71 [(2, .int y24), (4, .int y26), (5, .int x29), (6, .int x30)] [] m28 (k71 m28 x29 x30)) (hk108 : ∀ (m34 : Mem) (x35 : Int32), gX11_clash K X cE sE 108 [(0, .ref (xad X 362)), (1, .int y23), (2, .int y24), (3, .int x35), (4, .int y26)] [] m34 (k108 m34 x35)) (hcE : cE ≤ 169) (hsE : sE ≤ 2028) :
    ∀ (n c0 s0 : Nat), c0 + n * 1 ≤ cE → s0 + n * 12 ≤ sE → ∀ (m22 : Mem) (x25 : Int32) (x27 : Int32), gX11_clash K X c0 s0 42 [(0, .ref (xad X 362)), (1, .int y23), (2, .int y24), (3, .int x25), (4, .int y26), (5, .int x27)] [] m22 (fX11_clash_L42 k71 k108 y23 y24 y26 n m22 x25 x27) := by
  intro n
  induction n with
  | zero => intro c0 s0 h1 h2 m22 x25 x27; exact ge_none
  | succ n ih =>
    intro c0 s0 h1 h2 m22 x25 x27
    show gX11_clash K X c0 s0 42 [(0, .ref (xad X 362)), (1, .int y23), (2, .int y24), (3, .int x25), (4, .int y26), (5, .int x27)] [] m22 (fX11_clash_L42_b k71 k108 y23 y24 y26 (fX11_clash_L42 k71 k108 y23 y24 y26 n) m22 x25 x27)
    delta fX11_clash_L42_b
    refine ge_iload 5 DX11_clash_42 rfl ?_
    refine ge_aload_n 0 DX11_clash_44 rfl ?_
    refine ge_getI DX11_clash_45 fl_X11_76 is_362 (by decide) rfl ?_
    refine ge_icmp_ge (tgt := 108) DX11_clash_48 (by decide) ?_ ?_
    · refine ge_aload_n 0 DX11_clash_51 rfl ?_
      refine ge_iload 4 DX11_clash_52 rfl ?_
      refine ge_iload 5 DX11_clash_54 rfl ?_
      refine ge_callViA (st := []) cm_X11_242 DX11_clash_56 is_362 rfl (okX11_witness (kl K) X hX m22 y26 x27) rfl rfl (Nat.le_of_ble_eq_true rfl) (by decide) (dc := 1) (ds := 12) ⟨rfl, rfl⟩ ⟨by show _ + 1 ≤ (169 : Nat); omega, by show _ + 12 ≤ (2028 : Nat); omega⟩ (fun r39 m38 => ?_)
      refine ge_istore (ls' := [(6, .int r39), (0, .ref (xad X 362)), (1, .int y23), (2, .int y24), (3, .int x25), (4, .int y26), (5, .int x27)]) DX11_clash_59 (by decide) rfl ?_
      refine ge_iload 0 DX11_clash_61 rfl ?_
      refine ge_jn (P := fun k => gX11_clash K X (c0 + 1) (s0 + 12) 89 [(0, .ref (xad X 362)), (1, .int y23), (2, .int y24), (3, .int x25), (4, .int y26), (5, .int x27), (6, .int r39)] [] m38 k) ?_ (fun j89 hj89 => ?_)
      · refine ge_iload_n 3 DX11_clash_89 rfl ?_
        refine ge_iload 6 DX11_clash_90 rfl ?_
        refine ge_jn (P := fun k => ∀ (v40 : Int32), gX11_clash K X (c0 + 1) (s0 + 12) 100 [(0, .ref (xad X 362)), (1, .int y23), (2, .int y24), (4, .int y26), (5, .int x27)] [.int v40, .int x25] m38 (k v40)) (fun v40 => ?_) (fun j100 hj100 => ?_)
        · refine ge_iadd DX11_clash_100 ?_
          refine ge_topi (fun x41 => ?_)
          refine ge_istore_n (ls' := [(3, .int x41), (0, .ref (xad X 362)), (1, .int y23), (2, .int y24), (4, .int y26), (5, .int x27)]) DX11_clash_101 (by decide) rfl ?_
          refine ge_iinc 5 (v := (x27 + (1 : Int32))) (ls' := [(5, .int (x27 + (1 : Int32))), (3, .int x41), (0, .ref (xad X 362)), (1, .int y23), (2, .int y24), (4, .int y26)]) DX11_clash_102 rfl rfl (by decide) rfl ?_
          refine ge_goto (tgt := 42) DX11_clash_105 (by decide) ?_
          refine ge_sub [2, 3, 4, 1, 5, 0] rfl ?_
          exact ih _ _ (by omega) (by omega) m38 x41 (x27 + (1 : Int32))
        refine ge_if_lt (tgt := 99) DX11_clash_92 (by decide) ?_ ?_
        · refine ge_iconst (v := (0 : Int32)) DX11_clash_99 rfl ?_
          refine ge_sub [0, 1, 2, 4, 5] rfl ?_
          exact hj100 (0 : Int32)
        · refine ge_iconst (v := (1 : Int32)) DX11_clash_95 rfl ?_
          refine ge_goto (tgt := 100) DX11_clash_96 (by decide) ?_
          refine ge_sub [0, 1, 2, 4, 5] rfl ?_
          exact hj100 (1 : Int32)
      refine ge_if_lt (tgt := 89) DX11_clash_63 (by decide) ?_ ?_
      · refine ge_sub [1, 2, 3, 4, 5, 6, 0] rfl ?_
        exact hj89
      · refine ge_iload_n 4 DX11_clash_66 rfl ?_
        refine ge_iload_n 2 DX11_clash_67 rfl ?_
        refine ge_icmp_ne (tgt := 89) DX11_clash_68 (by decide) ?_ ?_
        · refine ge_widen (cells' := cE) (slots' := sE) (by omega) (by omega) ?_
          refine ge_sub [3, 5, 6, 0] rfl ?_
          exact hk71 m38 x27 r39
        · refine ge_sub [1, 2, 3, 4, 5, 6, 0] rfl ?_
          exact hj89
    · refine ge_widen (cells' := cE) (slots' := sE) (by omega) (by omega) ?_
      refine ge_sub [0, 1, 2, 3, 4] rfl ?_
      exact hk108 m22 x25
set_option maxHeartbeats 4000000 in
set_option maxRecDepth 100000 in
theorem lX11_clash_L27 (K : Kt) (X : Xt) (hX : xn X = 385) (cE sE : Nat) {k71 : Mem → Int32 → Int32 → Int32 → Option (Int32 × Mem)} {k114 : Mem → Option (Int32 × Mem)} (y7 : Int32) (y8 : Int32)  (hk71 : ∀ (m11 : Mem) (x12 : Int32) (x13 : Int32) (x14 : Int32), gX11_clash K X cE sE 71 [(2, .int y8), (4, .int x12), (5, .int x13), (6, .int x14)] [] m11 (k71 m11 x12 x13 x14)) (hk114 : ∀ (m19 : Mem), gX11_clash K X cE sE 114 [] [] m19 (k114 m19)) (hcE : cE ≤ 169) (hsE : sE ≤ 2028) :
    ∀ (n c0 s0 : Nat), c0 + n * 13 ≤ cE → s0 + n * 156 ≤ sE → ∀ (m6 : Mem) (x9 : Int32) (x10 : Int32), gX11_clash K X c0 s0 27 [(0, .ref (xad X 362)), (1, .int y7), (2, .int y8), (3, .int x9), (4, .int x10)] [] m6 (fX11_clash_L27 k71 k114 y7 y8 n m6 x9 x10) := by
  intro n
  induction n with
  | zero => intro c0 s0 h1 h2 m6 x9 x10; exact ge_none
  | succ n ih =>
    intro c0 s0 h1 h2 m6 x9 x10
    show gX11_clash K X c0 s0 27 [(0, .ref (xad X 362)), (1, .int y7), (2, .int y8), (3, .int x9), (4, .int x10)] [] m6 (fX11_clash_L27_b k71 k114 y7 y8 (fX11_clash_L27 k71 k114 y7 y8 n) m6 x9 x10)
    delta fX11_clash_L27_b
    refine ge_iload 4 DX11_clash_27 rfl ?_
    refine ge_aload_n 0 DX11_clash_29 rfl ?_
    refine ge_getI DX11_clash_30 fl_X11_76 is_362 (by decide) rfl ?_
    refine ge_icmp_ge (tgt := 114) DX11_clash_33 (by decide) ?_ ?_
    · refine ge_iload 4 DX11_clash_36 rfl ?_
      refine ge_iconst (v := (1 : Int32)) DX11_clash_38 rfl ?_
      refine ge_iadd DX11_clash_39 ?_
      refine ge_topi (fun x21 => ?_)
      refine ge_istore (ls' := [(5, .int x21), (0, .ref (xad X 362)), (1, .int y7), (2, .int y8), (3, .int x9), (4, .int x10)]) DX11_clash_40 (by decide) rfl ?_
      refine ge_sub [1, 2, 3, 4, 5, 0] rfl ?_
      refine lX11_clash_L42 K X hX ((c0 + 13 * 1)) ((s0 + 13 * 12)) y7 y8 x10 (fun m31 x32 x33 => ?_) (fun m36 x37 => ?_) (by omega) (by omega) 13 _ _ (by omega) (by omega) m6 x9 x21
      · refine ge_widen (cells' := cE) (slots' := sE) (by omega) (by omega) ?_
        exact hk71 m31 x10 x32 x33
      · refine ge_iinc 4 (v := (x10 + (1 : Int32))) (ls' := [(4, .int (x10 + (1 : Int32))), (0, .ref (xad X 362)), (1, .int y7), (2, .int y8), (3, .int x37)]) DX11_clash_108 rfl rfl (by decide) rfl ?_
        refine ge_goto (tgt := 27) DX11_clash_111 (by decide) ?_
        refine ge_sub [1, 2, 3, 4, 0] rfl ?_
        exact ih _ _ (by omega) (by omega) m36 x37 (x10 + (1 : Int32))
    · refine ge_widen (cells' := cE) (slots' := sE) (by omega) (by omega) ?_
      refine ge_sub [] rfl ?_
      exact hk114 m6
set_option maxHeartbeats 4000000 in
set_option maxRecDepth 100000 in
theorem okX11_clash (l : Launch) (X : Xt) (hX : xn X = 385) (m0 : Mem) (a1 : Int32) (a2 : Int32) : Ct l yX11_clash cX11_clash 7 (some .int) rmX11_clash ιI X [.ref (xad X 362), .int a1, .int a2] m0 (fX11_clash m0 a1 a2) := by
  refine ct_of (own := RX11) (ls := [(0, .ref (xad X 362)), (1, .int a1), (2, .int a2)]) (by decide) rfl rfl (Nat.le_of_ble_eq_true rfl) (fun K => ?_)
  show gX11_clash K X 0 0 0 [(0, .ref (xad X 362)), (1, .int a1), (2, .int a2)] [] m0 (fX11_clash m0 a1 a2)
  delta fX11_clash
  refine ge_iload_n 1 DX11_clash_0 rfl ?_
  refine ge_jn (P := fun k => ∀ (m1 : Mem), gX11_clash K X 0 0 14 [(0, .ref (xad X 362))] [] m1 (k m1)) (fun m1 => ?_) (fun j14 hj14 => ?_)
  · refine ge_aload_n 0 DX11_clash_14 rfl ?_
    refine ge_sipush (v := (-1001 : Int32)) DX11_clash_15 rfl ?_
    refine ge_callVi0 (st := []) cm_X11_145 DX11_clash_18 is_362 rfl (okX11_refuse (kl K) X m1 (-1001 : Int32)) rfl rfl (Nat.le_of_ble_eq_true rfl) (by decide) ⟨rfl, rfl⟩ ⟨by show _ ≤ (169 : Nat); omega, by show _ ≤ (2028 : Nat); omega⟩ (fun r3 m2 => ?_)
    refine ge_widen (cells' := 169) (slots' := 2028) (by omega) (by omega) ?_
    exact ge_iret rfl DX11_clash_21
  refine ge_if_lt (tgt := 14) DX11_clash_1 (by decide) ?_ ?_
  · refine ge_widen (cells' := 0) (slots' := 0) (by omega) (by omega) ?_
    refine ge_sub [0] rfl ?_
    exact hj14 m0
  · refine ge_iload_n 2 DX11_clash_4 rfl ?_
    refine ge_i2l DX11_clash_5 ?_
    refine ge_lconst (v := (0 : Int64)) DX11_clash_6 rfl ?_
    refine ge_lconst (v := (1 : Int64)) DX11_clash_7 rfl ?_
    refine ge_callSi0 (st := []) cm_X11_89 DX11_clash_8 (okX11_isIn (kl K) X m0 ((a2).toInt64) (0 : Int64) (1 : Int64)) rfl rfl (Nat.le_of_ble_eq_true rfl) (by decide) ⟨rfl, rfl⟩ ⟨by show _ ≤ (169 : Nat); omega, by show _ ≤ (2028 : Nat); omega⟩ (fun r5 m4 => ?_)
    refine ge_if_ne (tgt := 22) DX11_clash_11 (by decide) ?_ ?_
    · refine ge_widen (cells' := 0) (slots' := 0) (by omega) (by omega) ?_
      refine ge_sub [0] rfl ?_
      exact hj14 m4
    · refine ge_iconst (v := (0 : Int32)) DX11_clash_22 rfl ?_
      refine ge_istore_n (ls' := [(3, .int (0 : Int32)), (0, .ref (xad X 362)), (1, .int a1), (2, .int a2)]) DX11_clash_23 (by decide) rfl ?_
      refine ge_iconst (v := (0 : Int32)) DX11_clash_24 rfl ?_
      refine ge_istore (ls' := [(4, .int (0 : Int32)), (3, .int (0 : Int32)), (0, .ref (xad X 362)), (1, .int a1), (2, .int a2)]) DX11_clash_25 (by decide) rfl ?_
      refine ge_sub [2, 3, 4, 1, 0] rfl ?_
      refine lX11_clash_L27 K X hX ((0 + 13 * 13)) ((0 + 13 * 156)) a1 a2 (fun m15 x16 x17 x18 => ?_) (fun m20 => ?_) (by omega) (by omega) 13 _ _ (by omega) (by omega) m4 (0 : Int32) (0 : Int32)
      · refine ge_iload_n 0 DX11_clash_71 rfl ?_
        refine ge_if_ne (tgt := 86) DX11_clash_72 (by decide) ?_ ?_
        · refine ge_bipush (v := (16 : Int32)) DX11_clash_75 rfl ?_
          refine ge_iload 1 DX11_clash_77 rfl ?_
          refine ge_imul DX11_clash_79 ?_
          refine ge_iload 2 DX11_clash_80 rfl ?_
          refine ge_iadd DX11_clash_82 ?_
          refine ge_goto (tgt := 88) DX11_clash_83 (by decide) ?_
          refine ge_widen (cells' := 169) (slots' := 2028) (by omega) (by omega) ?_
          exact ge_iret rfl DX11_clash_88
        · refine ge_iload 3 DX11_clash_86 rfl ?_
          refine ge_widen (cells' := 169) (slots' := 2028) (by omega) (by omega) ?_
          exact ge_iret rfl DX11_clash_88
      · refine ge_iconst (v := (-1 : Int32)) DX11_clash_114 rfl ?_
        refine ge_widen (cells' := 169) (slots' := 2028) (by omega) (by omega) ?_
        exact ge_iret rfl DX11_clash_115
abbrev gX11_odd (K : Kt) (X : Xt) := GE (R := Int32) K rmX11_odd X cX11_odd 7 RX11 (some .int) (finM K X ιI 182 2184)
set_option maxHeartbeats 4000000 in
set_option maxRecDepth 100000 in
theorem lX11_odd_L70 (K : Kt) (X : Xt) (hX : xn X = 385) (cE sE : Nat) {k149 : Mem → Int32 → Int32 → Option (Int32 × Mem)} (y24 : Int32) (y25 : Int32) (y28 : Int32)  (hk149 : ∀ (m30 : Mem) (x31 : Int32) (x32 : Int32), gX11_odd K X cE sE 149 [(0, .ref (xad X 362)), (1, .int y24), (2, .int y25), (3, .int x31), (4, .int x32), (5, .int y28)] [] m30 (k149 m30 x31 x32)) (hcE : cE ≤ 182) (hsE : sE ≤ 2184) :
    ∀ (n c0 s0 : Nat), c0 + n * 1 ≤ cE → s0 + n * 12 ≤ sE → ∀ (m23 : Mem) (x26 : Int32) (x27 : Int32) (x29 : Int32), gX11_odd K X c0 s0 70 [(0, .ref (xad X 362)), (1, .int y24), (2, .int y25), (3, .int x26), (4, .int x27), (5, .int y28), (6, .int x29)] [] m23 (fX11_odd_L70 k149 y24 y25 y28 n m23 x26 x27 x29) := by
  intro n
  induction n with
  | zero => intro c0 s0 h1 h2 m23 x26 x27 x29; exact ge_none
  | succ n ih =>
    intro c0 s0 h1 h2 m23 x26 x27 x29
    show gX11_odd K X c0 s0 70 [(0, .ref (xad X 362)), (1, .int y24), (2, .int y25), (3, .int x26), (4, .int x27), (5, .int y28), (6, .int x29)] [] m23 (fX11_odd_L70_b k149 y24 y25 y28 (fX11_odd_L70 k149 y24 y25 y28 n) m23 x26 x27 x29)
    delta fX11_odd_L70_b
    refine ge_iload 6 DX11_odd_70 rfl ?_
    refine ge_aload_n 0 DX11_odd_72 rfl ?_
    refine ge_getI DX11_odd_73 fl_X11_76 is_362 (by decide) rfl ?_
    refine ge_icmp_ge (tgt := 149) DX11_odd_76 (by decide) ?_ ?_
    · refine ge_iload_n 3 DX11_odd_79 rfl ?_
      refine ge_aload_n 0 DX11_odd_80 rfl ?_
      refine ge_iload 5 DX11_odd_81 rfl ?_
      refine ge_callVi0 (st := [.int x26]) cm_X11_111 DX11_odd_83 is_362 rfl (okX11_maskOf (kl K) X m23 y28) rfl rfl (Nat.le_of_ble_eq_true rfl) (by decide) ⟨rfl, rfl⟩ ⟨by show _ ≤ (182 : Nat); omega, by show _ ≤ (2184 : Nat); omega⟩ (fun r37 m36 => ?_)
      refine ge_aload_n 0 DX11_odd_86 rfl ?_
      refine ge_iload 6 DX11_odd_87 rfl ?_
      refine ge_callVi0 (st := [.int r37, .int x26]) cm_X11_111 DX11_odd_89 is_362 rfl (okX11_maskOf (kl K) X m36 x29) rfl rfl (Nat.le_of_ble_eq_true rfl) (by decide) ⟨rfl, rfl⟩ ⟨by show _ ≤ (182 : Nat); omega, by show _ ≤ (2184 : Nat); omega⟩ (fun r39 m38 => ?_)
      refine ge_jn (P := fun k => ∀ (m40 : Mem) (v41 : Int32), gX11_odd K X c0 s0 115 [(0, .ref (xad X 362)), (1, .int y24), (2, .int y25), (4, .int x27), (5, .int y28), (6, .int x29)] [.int v41, .int x26] m40 (k m40 v41)) (fun m40 v41 => ?_) (fun j115 hj115 => ?_)
      · refine ge_iadd DX11_odd_115 ?_
        refine ge_topi (fun x42 => ?_)
        refine ge_istore_n (ls' := [(3, .int x42), (0, .ref (xad X 362)), (1, .int y24), (2, .int y25), (4, .int x27), (5, .int y28), (6, .int x29)]) DX11_odd_116 (by decide) rfl ?_
        refine ge_iload 4 DX11_odd_117 rfl ?_
        refine ge_iload_n 2 DX11_odd_119 rfl ?_
        refine ge_iconst (v := (2 : Int32)) DX11_odd_120 rfl ?_
        refine ge_jn (P := fun k => ∀ (m43 : Mem) (v44 : Int32), gX11_odd K X (c0 + 1) (s0 + 12) 140 [(0, .ref (xad X 362)), (1, .int y24), (2, .int y25), (3, .int x42), (5, .int y28), (6, .int x29)] [.int v44, .int x27] m43 (k m43 v44)) (fun m43 v44 => ?_) (fun j140 hj140 => ?_)
        · refine ge_iadd DX11_odd_140 ?_
          refine ge_topi (fun x45 => ?_)
          refine ge_istore (ls' := [(4, .int x45), (0, .ref (xad X 362)), (1, .int y24), (2, .int y25), (3, .int x42), (5, .int y28), (6, .int x29)]) DX11_odd_141 (by decide) rfl ?_
          refine ge_iinc 6 (v := (x29 + (1 : Int32))) (ls' := [(6, .int (x29 + (1 : Int32))), (4, .int x45), (0, .ref (xad X 362)), (1, .int y24), (2, .int y25), (3, .int x42), (5, .int y28)]) DX11_odd_143 rfl rfl (by decide) rfl ?_
          refine ge_goto (tgt := 70) DX11_odd_146 (by decide) ?_
          refine ge_sub [2, 3, 4, 5, 1, 6, 0] rfl ?_
          exact ih _ _ (by omega) (by omega) m43 x42 x45 (x29 + (1 : Int32))
        refine ge_jn (P := fun k => ∀ (m46 : Mem), gX11_odd K X (c0 + 1) (s0 + 12) 139 [(0, .ref (xad X 362)), (1, .int y24), (2, .int y25), (3, .int x42), (5, .int y28), (6, .int x29)] [.int x27] m46 (k m46)) (fun m46 => ?_) (fun j139 hj139 => ?_)
        · refine ge_iconst (v := (0 : Int32)) DX11_odd_139 rfl ?_
          refine ge_widen (cells' := (c0 + 1)) (slots' := (s0 + 12)) (by omega) (by omega) ?_
          exact hj140 m46 (0 : Int32)
        refine ge_icmp_ne (tgt := 139) DX11_odd_121 (by decide) ?_ ?_
        · refine ge_aload_n 1 DX11_odd_124 rfl ?_
          refine ge_iload 5 DX11_odd_125 rfl ?_
          refine ge_iload 6 DX11_odd_127 rfl ?_
          refine ge_callViA (st := [.int x27]) cm_X11_242 DX11_odd_129 is_362 rfl (okX11_witness (kl K) X hX m40 y28 x29) rfl rfl (Nat.le_of_ble_eq_true rfl) (by decide) (dc := 1) (ds := 12) ⟨rfl, rfl⟩ ⟨by show _ + 1 ≤ (182 : Nat); omega, by show _ + 12 ≤ (2184 : Nat); omega⟩ (fun r48 m47 => ?_)
          refine ge_if_lt (tgt := 139) DX11_odd_132 (by decide) ?_ ?_
          · refine ge_widen (cells' := (c0 + 1)) (slots' := (s0 + 12)) (by omega) (by omega) ?_
            refine ge_sub [1, 2, 3, 0, 5, 6] rfl ?_
            exact hj139 m47
          · refine ge_iconst (v := (1 : Int32)) DX11_odd_135 rfl ?_
            refine ge_goto (tgt := 140) DX11_odd_136 (by decide) ?_
            refine ge_widen (cells' := (c0 + 1)) (slots' := (s0 + 12)) (by omega) (by omega) ?_
            refine ge_sub [1, 2, 3, 0, 5, 6] rfl ?_
            exact hj140 m47 (1 : Int32)
        · refine ge_widen (cells' := (c0 + 1)) (slots' := (s0 + 12)) (by omega) (by omega) ?_
          refine ge_sub [1, 2, 3, 0, 5, 6] rfl ?_
          exact hj139 m40
      refine ge_jn (P := fun k => ∀ (m49 : Mem), gX11_odd K X c0 s0 114 [(0, .ref (xad X 362)), (1, .int y24), (2, .int y25), (4, .int x27), (5, .int y28), (6, .int x29)] [.int x26] m49 (k m49)) (fun m49 => ?_) (fun j114 hj114 => ?_)
      · refine ge_iconst (v := (0 : Int32)) DX11_odd_114 rfl ?_
        refine ge_widen (cells' := c0) (slots' := s0) (by omega) (by omega) ?_
        exact hj115 m49 (0 : Int32)
      refine ge_icmp_ne (tgt := 114) DX11_odd_92 (by decide) ?_ ?_
      · refine ge_aload_n 0 DX11_odd_95 rfl ?_
        refine ge_iload 5 DX11_odd_96 rfl ?_
        refine ge_callVi0 (st := [.int x26]) cm_X11_114 DX11_odd_98 is_362 rfl (okX11_valueOf (kl K) X m38 y28) rfl rfl (Nat.le_of_ble_eq_true rfl) (by decide) ⟨rfl, rfl⟩ ⟨by show _ ≤ (182 : Nat); omega, by show _ ≤ (2184 : Nat); omega⟩ (fun r51 m50 => ?_)
        refine ge_aload_n 0 DX11_odd_101 rfl ?_
        refine ge_iload 6 DX11_odd_102 rfl ?_
        refine ge_callVi0 (st := [.int r51, .int x26]) cm_X11_114 DX11_odd_104 is_362 rfl (okX11_valueOf (kl K) X m50 x29) rfl rfl (Nat.le_of_ble_eq_true rfl) (by decide) ⟨rfl, rfl⟩ ⟨by show _ ≤ (182 : Nat); omega, by show _ ≤ (2184 : Nat); omega⟩ (fun r53 m52 => ?_)
        refine ge_icmp_ne (tgt := 114) DX11_odd_107 (by decide) ?_ ?_
        · refine ge_iconst (v := (1 : Int32)) DX11_odd_110 rfl ?_
          refine ge_goto (tgt := 115) DX11_odd_111 (by decide) ?_
          refine ge_widen (cells' := c0) (slots' := s0) (by omega) (by omega) ?_
          refine ge_sub [0, 1, 2, 4, 5, 6] rfl ?_
          exact hj115 m52 (1 : Int32)
        · refine ge_widen (cells' := c0) (slots' := s0) (by omega) (by omega) ?_
          refine ge_sub [0, 1, 2, 4, 5, 6] rfl ?_
          exact hj114 m52
      · refine ge_widen (cells' := c0) (slots' := s0) (by omega) (by omega) ?_
        refine ge_sub [0, 1, 2, 4, 5, 6] rfl ?_
        exact hj114 m38
    · refine ge_widen (cells' := cE) (slots' := sE) (by omega) (by omega) ?_
      refine ge_sub [0, 1, 2, 3, 4, 5] rfl ?_
      exact hk149 m23 x26 x27
set_option maxHeartbeats 4000000 in
set_option maxRecDepth 100000 in
theorem lX11_odd_L30 (K : Kt) (X : Xt) (hX : xn X = 385) (cE sE : Nat) {k155 : Mem → Int32 → Int32 → Int32 → Option (Int32 × Mem)} (y6 : Int32)  (hk155 : ∀ (m11 : Mem) (x12 : Int32) (x13 : Int32) (x14 : Int32), gX11_odd K X cE sE 155 [(1, .int y6), (2, .int x12), (3, .int x13), (4, .int x14)] [] m11 (k155 m11 x12 x13 x14)) (hcE : cE ≤ 182) (hsE : sE ≤ 2184) :
    ∀ (n c0 s0 : Nat), c0 + n * 14 ≤ cE → s0 + n * 168 ≤ sE → ∀ (m5 : Mem) (x7 : Int32) (x8 : Int32) (x9 : Int32) (x10 : Int32), gX11_odd K X c0 s0 30 [(0, .ref (xad X 362)), (1, .int y6), (2, .int x7), (3, .int x8), (4, .int x9), (5, .int x10)] [] m5 (fX11_odd_L30 k155 y6 n m5 x7 x8 x9 x10) := by
  intro n
  induction n with
  | zero => intro c0 s0 h1 h2 m5 x7 x8 x9 x10; exact ge_none
  | succ n ih =>
    intro c0 s0 h1 h2 m5 x7 x8 x9 x10
    show gX11_odd K X c0 s0 30 [(0, .ref (xad X 362)), (1, .int y6), (2, .int x7), (3, .int x8), (4, .int x9), (5, .int x10)] [] m5 (fX11_odd_L30_b k155 y6 (fX11_odd_L30 k155 y6 n) m5 x7 x8 x9 x10)
    delta fX11_odd_L30_b
    refine ge_iload 5 DX11_odd_30 rfl ?_
    refine ge_aload_n 0 DX11_odd_32 rfl ?_
    refine ge_getI DX11_odd_33 fl_X11_76 is_362 (by decide) rfl ?_
    refine ge_icmp_ge (tgt := 155) DX11_odd_36 (by decide) ?_ ?_
    · refine ge_iload_n 2 DX11_odd_39 rfl ?_
      refine ge_iload_n 1 DX11_odd_40 rfl ?_
      refine ge_jn (P := fun k => ∀ (m19 : Mem) (v20 : Int32), gX11_odd K X (c0 + 1) (s0 + 12) 62 [(0, .ref (xad X 362)), (1, .int y6), (3, .int x8), (4, .int x9), (5, .int x10)] [.int v20, .int x7] m19 (k m19 v20)) (fun m19 v20 => ?_) (fun j62 hj62 => ?_)
      · refine ge_ior DX11_odd_62 ?_
        refine ge_topi (fun x21 => ?_)
        refine ge_istore_n (ls' := [(2, .int x21), (0, .ref (xad X 362)), (1, .int y6), (3, .int x8), (4, .int x9), (5, .int x10)]) DX11_odd_63 (by decide) rfl ?_
        refine ge_iload 5 DX11_odd_64 rfl ?_
        refine ge_iconst (v := (1 : Int32)) DX11_odd_66 rfl ?_
        refine ge_iadd DX11_odd_67 ?_
        refine ge_topi (fun x22 => ?_)
        refine ge_istore (ls' := [(6, .int x22), (2, .int x21), (0, .ref (xad X 362)), (1, .int y6), (3, .int x8), (4, .int x9), (5, .int x10)]) DX11_odd_68 (by decide) rfl ?_
        refine ge_sub [2, 3, 1, 4, 5, 6, 0] rfl ?_
        refine lX11_odd_L70 K X hX (((c0 + 1) + 13 * 1)) (((s0 + 12) + 13 * 12)) y6 x21 x10 (fun m33 x34 x35 => ?_) (by omega) (by omega) 13 _ _ (by omega) (by omega) m19 x8 x9 x22
        · refine ge_iinc 5 (v := (x10 + (1 : Int32))) (ls' := [(5, .int (x10 + (1 : Int32))), (0, .ref (xad X 362)), (1, .int y6), (2, .int x21), (3, .int x34), (4, .int x35)]) DX11_odd_149 rfl rfl (by decide) rfl ?_
          refine ge_goto (tgt := 30) DX11_odd_152 (by decide) ?_
          refine ge_sub [1, 2, 3, 4, 5, 0] rfl ?_
          exact ih _ _ (by omega) (by omega) m33 x21 x34 x35 (x10 + (1 : Int32))
      refine ge_jn (P := fun k => ∀ (m54 : Mem), gX11_odd K X (c0 + 1) (s0 + 12) 61 [(0, .ref (xad X 362)), (1, .int y6), (3, .int x8), (4, .int x9), (5, .int x10)] [.int x7] m54 (k m54)) (fun m54 => ?_) (fun j61 hj61 => ?_)
      · refine ge_iconst (v := (0 : Int32)) DX11_odd_61 rfl ?_
        refine ge_widen (cells' := (c0 + 1)) (slots' := (s0 + 12)) (by omega) (by omega) ?_
        exact hj62 m54 (0 : Int32)
      refine ge_if_ne (tgt := 61) DX11_odd_41 (by decide) ?_ ?_
      · refine ge_aload_n 0 DX11_odd_44 rfl ?_
        refine ge_iload 5 DX11_odd_45 rfl ?_
        refine ge_iconst (v := (-1 : Int32)) DX11_odd_47 rfl ?_
        refine ge_callViA (st := [.int x7]) cm_X11_247 DX11_odd_48 is_362 rfl (okX11_next (kl K) X hX m5 x10 (-1 : Int32)) rfl rfl (Nat.le_of_ble_eq_true rfl) (by decide) (dc := 1) (ds := 12) ⟨rfl, rfl⟩ ⟨by show _ + 1 ≤ (182 : Nat); omega, by show _ + 12 ≤ (2184 : Nat); omega⟩ (fun r56 m55 => ?_)
        refine ge_if_ge (tgt := 61) DX11_odd_51 (by decide) ?_ ?_
        · refine ge_iconst (v := (1 : Int32)) DX11_odd_54 rfl ?_
          refine ge_iload 5 DX11_odd_55 rfl ?_
          refine ge_ishl DX11_odd_57 ?_
          refine ge_goto (tgt := 62) DX11_odd_58 (by decide) ?_
          refine ge_widen (cells' := (c0 + 1)) (slots' := (s0 + 12)) (by omega) (by omega) ?_
          refine ge_sub [0, 1, 3, 4, 5] rfl ?_
          exact hj62 m55 ((1 : Int32) <<< (x10 &&& 31))
        · refine ge_widen (cells' := (c0 + 1)) (slots' := (s0 + 12)) (by omega) (by omega) ?_
          refine ge_sub [0, 1, 3, 4, 5] rfl ?_
          exact hj61 m55
      · refine ge_widen (cells' := (c0 + 1)) (slots' := (s0 + 12)) (by omega) (by omega) ?_
        refine ge_sub [0, 1, 3, 4, 5] rfl ?_
        exact hj61 m5
    · refine ge_widen (cells' := cE) (slots' := sE) (by omega) (by omega) ?_
      refine ge_sub [1, 2, 3, 4] rfl ?_
      exact hk155 m5 x7 x8 x9
set_option maxHeartbeats 4000000 in
set_option maxRecDepth 100000 in
theorem okX11_odd (l : Launch) (X : Xt) (hX : xn X = 385) (m0 : Mem) (a1 : Int32) : Ct l yX11_odd cX11_odd 7 (some .int) rmX11_odd ιI X [.ref (xad X 362), .int a1] m0 (fX11_odd m0 a1) := by
  refine ct_of (own := RX11) (ls := [(0, .ref (xad X 362)), (1, .int a1)]) (by decide) rfl rfl (Nat.le_of_ble_eq_true rfl) (fun K => ?_)
  show gX11_odd K X 0 0 0 [(0, .ref (xad X 362)), (1, .int a1)] [] m0 (fX11_odd m0 a1)
  delta fX11_odd
  refine ge_iload_n 1 DX11_odd_0 rfl ?_
  refine ge_i2l DX11_odd_1 ?_
  refine ge_lconst (v := (0 : Int64)) DX11_odd_2 rfl ?_
  refine ge_ldc2 (v := (2 : Int64)) kw_X11_245 DX11_odd_3 ?_
  refine ge_callSi0 (st := []) cm_X11_89 DX11_odd_6 (okX11_isIn (kl K) X m0 ((a1).toInt64) (0 : Int64) (2 : Int64)) rfl rfl (Nat.le_of_ble_eq_true rfl) (by decide) ⟨rfl, rfl⟩ ⟨by show _ ≤ (182 : Nat); omega, by show _ ≤ (2184 : Nat); omega⟩ (fun r2 m1 => ?_)
  refine ge_if_ne (tgt := 20) DX11_odd_9 (by decide) ?_ ?_
  · refine ge_aload_n 0 DX11_odd_12 rfl ?_
    refine ge_sipush (v := (-1001 : Int32)) DX11_odd_13 rfl ?_
    refine ge_callVi0 (st := []) cm_X11_145 DX11_odd_16 is_362 rfl (okX11_refuse (kl K) X m1 (-1001 : Int32)) rfl rfl (Nat.le_of_ble_eq_true rfl) (by decide) ⟨rfl, rfl⟩ ⟨by show _ ≤ (182 : Nat); omega, by show _ ≤ (2184 : Nat); omega⟩ (fun r4 m3 => ?_)
    refine ge_widen (cells' := 182) (slots' := 2184) (by omega) (by omega) ?_
    exact ge_iret rfl DX11_odd_19
  · refine ge_iconst (v := (0 : Int32)) DX11_odd_20 rfl ?_
    refine ge_istore_n (ls' := [(2, .int (0 : Int32)), (0, .ref (xad X 362)), (1, .int a1)]) DX11_odd_21 (by decide) rfl ?_
    refine ge_iconst (v := (0 : Int32)) DX11_odd_22 rfl ?_
    refine ge_istore_n (ls' := [(3, .int (0 : Int32)), (2, .int (0 : Int32)), (0, .ref (xad X 362)), (1, .int a1)]) DX11_odd_23 (by decide) rfl ?_
    refine ge_iconst (v := (0 : Int32)) DX11_odd_24 rfl ?_
    refine ge_istore (ls' := [(4, .int (0 : Int32)), (3, .int (0 : Int32)), (2, .int (0 : Int32)), (0, .ref (xad X 362)), (1, .int a1)]) DX11_odd_25 (by decide) rfl ?_
    refine ge_iconst (v := (0 : Int32)) DX11_odd_27 rfl ?_
    refine ge_istore (ls' := [(5, .int (0 : Int32)), (4, .int (0 : Int32)), (3, .int (0 : Int32)), (2, .int (0 : Int32)), (0, .ref (xad X 362)), (1, .int a1)]) DX11_odd_28 (by decide) rfl ?_
    refine ge_sub [4, 5, 3, 2, 1, 0] rfl ?_
    refine lX11_odd_L30 K X hX ((0 + 13 * 14)) ((0 + 13 * 168)) a1 (fun m15 x16 x17 x18 => ?_) (by omega) (by omega) 13 _ _ (by omega) (by omega) m1 (0 : Int32) (0 : Int32) (0 : Int32) (0 : Int32)
    · refine ge_iload_n 0 DX11_odd_155 rfl ?_
      refine ge_if_ne (tgt := 163) DX11_odd_156 (by decide) ?_ ?_
      · refine ge_iload_n 1 DX11_odd_159 rfl ?_
        refine ge_goto (tgt := 174) DX11_odd_160 (by decide) ?_
        refine ge_widen (cells' := 182) (slots' := 2184) (by omega) (by omega) ?_
        exact ge_iret rfl DX11_odd_174
      · refine ge_iload_n 0 DX11_odd_163 rfl ?_
        refine ge_iconst (v := (1 : Int32)) DX11_odd_164 rfl ?_
        refine ge_icmp_ne (tgt := 172) DX11_odd_165 (by decide) ?_ ?_
        · refine ge_iload_n 2 DX11_odd_168 rfl ?_
          refine ge_goto (tgt := 174) DX11_odd_169 (by decide) ?_
          refine ge_widen (cells' := 182) (slots' := 2184) (by omega) (by omega) ?_
          exact ge_iret rfl DX11_odd_174
        · refine ge_iload 3 DX11_odd_172 rfl ?_
          refine ge_widen (cells' := 182) (slots' := 2184) (by omega) (by omega) ?_
          exact ge_iret rfl DX11_odd_174
