abbrev gX10_clash (K : Kt) (X : Xt) := GE (R := Int32) K rmX10_clash X cX10_clash 4 RX10 (some .int) (finM K X ιI 0 0)
set_option maxHeartbeats 4000000 in
set_option maxRecDepth 100000 in
theorem okX10_clash (l : Launch) (X : Xt) (m0 : Mem) (a1 : Int32) (a2 : Int32) : Ct l yX10_clash cX10_clash 4 (some .int) rmX10_clash ιI X [.ref (xad X 0), .int a1, .int a2] m0 (fX10_clash m0 a1 a2) := by
  refine ct_of (own := RX10) (ls := [(0, .ref (xad X 0)), (1, .int a1), (2, .int a2)]) (by decide) rfl rfl (Nat.le_of_ble_eq_true rfl) (fun K => ?_)
  show gX10_clash K X 0 0 0 [(0, .ref (xad X 0)), (1, .int a1), (2, .int a2)] [] m0 (fX10_clash m0 a1 a2)
  delta fX10_clash
  refine ge_iload_n 1 DX10_clash_0 rfl ?_
  refine ge_jn (P := fun k => ∀ (m1 : Mem), gX10_clash K X 0 0 13 [(0, .ref (xad X 0))] [] m1 (k m1)) (fun m1 => ?_) (fun j13 hj13 => ?_)
  · refine ge_aload_n 0 DX10_clash_13 rfl ?_
    refine ge_sipush (v := (-1001 : Int32)) DX10_clash_14 rfl ?_
    refine ge_callVi0 (st := []) cm_X10_103 DX10_clash_17 is_0 rfl (okX10_refuse (kl K) X m1 (-1001 : Int32)) rfl rfl (Nat.le_of_ble_eq_true rfl) (by decide) ⟨rfl, rfl⟩ ⟨Nat.zero_le _, Nat.zero_le _⟩ (fun r3 m2 => ?_)
    exact ge_iret rfl DX10_clash_20
  refine ge_if_lt (tgt := 13) DX10_clash_1 (by decide) ?_ ?_
  · refine ge_sub [0] rfl ?_
    exact hj13 m0
  · refine ge_iload_n 2 DX10_clash_4 rfl ?_
    refine ge_iconst (v := (0 : Int32)) DX10_clash_5 rfl ?_
    refine ge_iconst (v := (1 : Int32)) DX10_clash_6 rfl ?_
    refine ge_callSi0 (st := []) cm_X10_99 DX10_clash_7 (okX10_within (kl K) X m0 a2 (0 : Int32) (1 : Int32)) rfl rfl (Nat.le_of_ble_eq_true rfl) (by decide) ⟨rfl, rfl⟩ ⟨Nat.zero_le _, Nat.zero_le _⟩ (fun r5 m4 => ?_)
    refine ge_if_ne (tgt := 21) DX10_clash_10 (by decide) ?_ ?_
    · refine ge_sub [0] rfl ?_
      exact hj13 m4
    · refine ge_aload_n 0 DX10_clash_21 rfl ?_
      refine ge_getR (i := 275) DX10_clash_22 fl_X10_55 is_0 (by decide) rfl ?_
      refine ge_callVv0 (st := []) cm_X10_181 DX10_clash_25 is_275 rfl (okX6_goThrough (kl K) X m4) rfl rfl (Nat.le_of_ble_eq_true rfl) (by decide) ⟨rfl, rfl⟩ ⟨Nat.zero_le _, Nat.zero_le _⟩ (fun m6 => ?_)
      refine ge_aload_n 0 DX10_clash_28 rfl ?_
      refine ge_getR (i := 275) DX10_clash_29 fl_X10_55 is_0 (by decide) rfl ?_
      refine ge_iload_n 1 DX10_clash_32 rfl ?_
      refine ge_callVi0 (st := []) cm_X10_187 DX10_clash_33 is_275 rfl (okX6_clashingPair (kl K) X m6 a1) rfl rfl (Nat.le_of_ble_eq_true rfl) (by decide) ⟨rfl, rfl⟩ ⟨Nat.zero_le _, Nat.zero_le _⟩ (fun r8 m7 => ?_)
      refine ge_istore_n (ls' := [(3, .int r8), (0, .ref (xad X 0)), (1, .int a1), (2, .int a2)]) DX10_clash_36 (by decide) rfl ?_
      refine ge_iload_n 0 DX10_clash_37 rfl ?_
      refine ge_iconst (v := (-1 : Int32)) DX10_clash_38 rfl ?_
      refine ge_icmp_ne (tgt := 44) DX10_clash_39 (by decide) ?_ ?_
      · refine ge_iconst (v := (-1 : Int32)) DX10_clash_42 rfl ?_
        exact ge_iret rfl DX10_clash_43
      · refine ge_iload_n 3 DX10_clash_44 rfl ?_
        refine ge_if_ne (tgt := 52) DX10_clash_45 (by decide) ?_ ?_
        · refine ge_iload_n 0 DX10_clash_48 rfl ?_
          refine ge_goto (tgt := 61) DX10_clash_49 (by decide) ?_
          exact ge_iret rfl DX10_clash_61
        · refine ge_aload_n 1 DX10_clash_52 rfl ?_
          refine ge_getR (i := 275) DX10_clash_53 fl_X10_55 is_0 (by decide) rfl ?_
          refine ge_getR (i := 280) DX10_clash_56 fl_X10_190 is_275 (by decide) rfl ?_
          refine ge_iload_n 0 DX10_clash_59 rfl ?_
          refine ge_iald DX10_clash_60 is_280 al_280 ?_
          exact ge_iret rfl DX10_clash_61
abbrev gX10_odd (K : Kt) (X : Xt) := GE (R := Int32) K rmX10_odd X cX10_odd 2 RX10 (some .int) (finM K X ιI 0 0)
set_option maxHeartbeats 4000000 in
set_option maxRecDepth 100000 in
theorem okX10_odd (l : Launch) (X : Xt) (m0 : Mem) (a1 : Int32) : Ct l yX10_odd cX10_odd 2 (some .int) rmX10_odd ιI X [.ref (xad X 0), .int a1] m0 (fX10_odd m0 a1) := by
  refine ct_of (own := RX10) (ls := [(0, .ref (xad X 0)), (1, .int a1)]) (by decide) rfl rfl (Nat.le_of_ble_eq_true rfl) (fun K => ?_)
  show gX10_odd K X 0 0 0 [(0, .ref (xad X 0)), (1, .int a1)] [] m0 (fX10_odd m0 a1)
  delta fX10_odd
  refine ge_iload_n 1 DX10_odd_0 rfl ?_
  refine ge_iconst (v := (0 : Int32)) DX10_odd_1 rfl ?_
  refine ge_iconst (v := (2 : Int32)) DX10_odd_2 rfl ?_
  refine ge_callSi0 (st := []) cm_X10_99 DX10_odd_3 (okX10_within (kl K) X m0 a1 (0 : Int32) (2 : Int32)) rfl rfl (Nat.le_of_ble_eq_true rfl) (by decide) ⟨rfl, rfl⟩ ⟨Nat.zero_le _, Nat.zero_le _⟩ (fun r2 m1 => ?_)
  refine ge_if_ne (tgt := 17) DX10_odd_6 (by decide) ?_ ?_
  · refine ge_aload_n 0 DX10_odd_9 rfl ?_
    refine ge_sipush (v := (-1001 : Int32)) DX10_odd_10 rfl ?_
    refine ge_callVi0 (st := []) cm_X10_103 DX10_odd_13 is_0 rfl (okX10_refuse (kl K) X m1 (-1001 : Int32)) rfl rfl (Nat.le_of_ble_eq_true rfl) (by decide) ⟨rfl, rfl⟩ ⟨Nat.zero_le _, Nat.zero_le _⟩ (fun r4 m3 => ?_)
    exact ge_iret rfl DX10_odd_16
  · refine ge_iload_n 1 DX10_odd_17 rfl ?_
    refine ge_iconst (v := (1 : Int32)) DX10_odd_18 rfl ?_
    refine ge_icmp_ne (tgt := 30) DX10_odd_19 (by decide) ?_ ?_
    · refine ge_aload_n 0 DX10_odd_22 rfl ?_
      refine ge_getR (i := 9) DX10_odd_23 fl_X10_51 is_0 (by decide) rfl ?_
      refine ge_callVi0 (st := []) cm_X10_193 DX10_odd_26 is_9 rfl (okX4_twins (kl K) X m1) rfl rfl (Nat.le_of_ble_eq_true rfl) (by decide) ⟨rfl, rfl⟩ ⟨Nat.zero_le _, Nat.zero_le _⟩ (fun r6 m5 => ?_)
      exact ge_iret rfl DX10_odd_29
    · refine ge_aload_n 0 DX10_odd_30 rfl ?_
      refine ge_getR (i := 275) DX10_odd_31 fl_X10_55 is_0 (by decide) rfl ?_
      refine ge_callVv0 (st := []) cm_X10_181 DX10_odd_34 is_275 rfl (okX6_goThrough (kl K) X m1) rfl rfl (Nat.le_of_ble_eq_true rfl) (by decide) ⟨rfl, rfl⟩ ⟨Nat.zero_le _, Nat.zero_le _⟩ (fun m7 => ?_)
      refine ge_iload_n 1 DX10_odd_37 rfl ?_
      refine ge_if_ne (tgt := 51) DX10_odd_38 (by decide) ?_ ?_
      · refine ge_aload_n 0 DX10_odd_41 rfl ?_
        refine ge_getR (i := 275) DX10_odd_42 fl_X10_55 is_0 (by decide) rfl ?_
        refine ge_callVi0 (st := []) cm_X10_196 DX10_odd_45 is_275 rfl (okX6_deadForms (kl K) X m7) rfl rfl (Nat.le_of_ble_eq_true rfl) (by decide) ⟨rfl, rfl⟩ ⟨Nat.zero_le _, Nat.zero_le _⟩ (fun r9 m8 => ?_)
        refine ge_goto (tgt := 58) DX10_odd_48 (by decide) ?_
        exact ge_iret rfl DX10_odd_58
      · refine ge_aload_n 0 DX10_odd_51 rfl ?_
        refine ge_getR (i := 275) DX10_odd_52 fl_X10_55 is_0 (by decide) rfl ?_
        refine ge_getI DX10_odd_55 fl_X10_199 is_275 (by decide) rfl ?_
        exact ge_iret rfl DX10_odd_58
abbrev gX10_isTreeSet (K : Kt) (X : Xt) := GE (R := Int32) K rmX10_isTreeSet X cX10_isTreeSet 1 RX10 (some .boolean) (finM K X ιI 0 0)
set_option maxHeartbeats 4000000 in
set_option maxRecDepth 100000 in
theorem okX10_isTreeSet (l : Launch) (X : Xt) (m0 : Mem) (a0 : Int32) : Ct l yX10_isTreeSet cX10_isTreeSet 1 (some .boolean) rmX10_isTreeSet ιI X [.int a0] m0 (fX10_isTreeSet m0 a0) := by
  refine ct_of (own := RX10) (ls := [(0, .int a0)]) (by decide) rfl rfl (Nat.le_of_ble_eq_true rfl) (fun K => ?_)
  show gX10_isTreeSet K X 0 0 0 [(0, .int a0)] [] m0 (fX10_isTreeSet m0 a0)
  delta fX10_isTreeSet
  refine ge_iload_n 0 DX10_isTreeSet_0 rfl ?_
  refine ge_callSi0 (st := []) cm_X10_165 DX10_isTreeSet_1 (okX10_isWord (kl K) X m0 a0) rfl rfl (Nat.le_of_ble_eq_true rfl) (by decide) ⟨rfl, rfl⟩ ⟨Nat.zero_le _, Nat.zero_le _⟩ (fun r2 m1 => ?_)
  refine ge_if_eq (tgt := 20) DX10_isTreeSet_4 (by decide) ?_ ?_
  · refine ge_iconst (v := (0 : Int32)) DX10_isTreeSet_20 rfl ?_
    exact ge_zretc rfl rfl DX10_isTreeSet_21
  · refine ge_iload_n 0 DX10_isTreeSet_7 rfl ?_
    refine ge_callSi0 (st := []) cm_X10_339 DX10_isTreeSet_8 (okJ6_bitCount_0f7a4 (kl K) X m1 a0) rfl rfl (Nat.le_of_ble_eq_true rfl) (by decide) ⟨rfl, rfl⟩ ⟨Nat.zero_le _, Nat.zero_le _⟩ (fun r4 m3 => ?_)
    refine ge_bipush (v := (6 : Int32)) DX10_isTreeSet_11 rfl ?_
    refine ge_icmp_gt (tgt := 20) DX10_isTreeSet_13 (by decide) ?_ ?_
    · refine ge_iconst (v := (0 : Int32)) DX10_isTreeSet_20 rfl ?_
      exact ge_zretc rfl rfl DX10_isTreeSet_21
    · refine ge_iconst (v := (1 : Int32)) DX10_isTreeSet_16 rfl ?_
      refine ge_goto (tgt := 21) DX10_isTreeSet_17 (by decide) ?_
      exact ge_zretc rfl rfl DX10_isTreeSet_21
abbrev gX10_greedy (K : Kt) (X : Xt) := GE (R := Int32) K rmX10_greedy X cX10_greedy 3 RX10 (some .int) (finM K X ιI 0 0)
set_option maxHeartbeats 4000000 in
set_option maxRecDepth 100000 in
theorem okX10_greedy (l : Launch) (X : Xt) (m0 : Mem) (a1 : Int32) (a2 : Int32) : Ct l yX10_greedy cX10_greedy 3 (some .int) rmX10_greedy ιI X [.ref (xad X 0), .int a1, .int a2] m0 (fX10_greedy m0 a1 a2) := by
  refine ct_of (own := RX10) (ls := [(0, .ref (xad X 0)), (1, .int a1), (2, .int a2)]) (by decide) rfl rfl (Nat.le_of_ble_eq_true rfl) (fun K => ?_)
  show gX10_greedy K X 0 0 0 [(0, .ref (xad X 0)), (1, .int a1), (2, .int a2)] [] m0 (fX10_greedy m0 a1 a2)
  delta fX10_greedy
  refine ge_iload_n 1 DX10_greedy_0 rfl ?_
  refine ge_callSi0 (st := []) cm_X10_202 DX10_greedy_1 (okX10_isTreeSet (kl K) X m0 a1) rfl rfl (Nat.le_of_ble_eq_true rfl) (by decide) ⟨rfl, rfl⟩ ⟨Nat.zero_le _, Nat.zero_le _⟩ (fun r2 m1 => ?_)
  refine ge_jn (P := fun k => ∀ (m3 : Mem), gX10_greedy K X 0 0 16 [(0, .ref (xad X 0))] [] m3 (k m3)) (fun m3 => ?_) (fun j16 hj16 => ?_)
  · refine ge_aload_n 0 DX10_greedy_16 rfl ?_
    refine ge_sipush (v := (-1001 : Int32)) DX10_greedy_17 rfl ?_
    refine ge_callVi0 (st := []) cm_X10_103 DX10_greedy_20 is_0 rfl (okX10_refuse (kl K) X m3 (-1001 : Int32)) rfl rfl (Nat.le_of_ble_eq_true rfl) (by decide) ⟨rfl, rfl⟩ ⟨Nat.zero_le _, Nat.zero_le _⟩ (fun r5 m4 => ?_)
    exact ge_iret rfl DX10_greedy_23
  refine ge_if_eq (tgt := 16) DX10_greedy_4 (by decide) ?_ ?_
  · refine ge_sub [0] rfl ?_
    exact hj16 m1
  · refine ge_iload_n 2 DX10_greedy_7 rfl ?_
    refine ge_iconst (v := (0 : Int32)) DX10_greedy_8 rfl ?_
    refine ge_iconst (v := (3 : Int32)) DX10_greedy_9 rfl ?_
    refine ge_callSi0 (st := []) cm_X10_99 DX10_greedy_10 (okX10_within (kl K) X m1 a2 (0 : Int32) (3 : Int32)) rfl rfl (Nat.le_of_ble_eq_true rfl) (by decide) ⟨rfl, rfl⟩ ⟨Nat.zero_le _, Nat.zero_le _⟩ (fun r7 m6 => ?_)
    refine ge_if_ne (tgt := 24) DX10_greedy_13 (by decide) ?_ ?_
    · refine ge_sub [0] rfl ?_
      exact hj16 m6
    · refine ge_aload_n 0 DX10_greedy_24 rfl ?_
      refine ge_getR (i := 287) DX10_greedy_25 fl_X10_68 is_0 (by decide) rfl ?_
      refine ge_iload_n 1 DX10_greedy_28 rfl ?_
      refine ge_callVv0 (st := []) cm_X10_205 DX10_greedy_29 is_287 rfl (okX8_growGreedy (kl K) X m6 a1) rfl rfl (Nat.le_of_ble_eq_true rfl) (by decide) ⟨rfl, rfl⟩ ⟨Nat.zero_le _, Nat.zero_le _⟩ (fun m8 => ?_)
      refine ge_iload_n 2 DX10_greedy_32 rfl ?_
      refine ge_ite (fun hx9 => ?_) (fun hx9 => ?_)
      · refine ge_tsw (v := (0 : Int32)) (tgt := 60) DX10_greedy_33 hx9 (by decide) (by decide) rfl (by decide) ?_
        refine ge_aload_n 0 DX10_greedy_60 rfl ?_
        refine ge_getR (i := 287) DX10_greedy_61 fl_X10_68 is_0 (by decide) rfl ?_
        refine ge_getI DX10_greedy_64 fl_X10_208 is_287 (by decide) rfl ?_
        exact ge_iret rfl DX10_greedy_67
      refine ge_ite (fun hx10 => ?_) (fun hx10 => ?_)
      · refine ge_tsw (v := (1 : Int32)) (tgt := 68) DX10_greedy_33 hx10 (by decide) (by decide) rfl (by decide) ?_
        refine ge_aload_n 0 DX10_greedy_68 rfl ?_
        refine ge_getR (i := 287) DX10_greedy_69 fl_X10_68 is_0 (by decide) rfl ?_
        refine ge_getI DX10_greedy_72 fl_X10_211 is_287 (by decide) rfl ?_
        exact ge_iret rfl DX10_greedy_75
      refine ge_ite (fun hx11 => ?_) (fun hx11 => ?_)
      · refine ge_tsw (v := (2 : Int32)) (tgt := 76) DX10_greedy_33 hx11 (by decide) (by decide) rfl (by decide) ?_
        refine ge_aload_n 0 DX10_greedy_76 rfl ?_
        refine ge_getR (i := 287) DX10_greedy_77 fl_X10_68 is_0 (by decide) rfl ?_
        refine ge_getI DX10_greedy_80 fl_X10_214 is_287 (by decide) rfl ?_
        exact ge_iret rfl DX10_greedy_83
      refine ge_tswd (tgt := 84) DX10_greedy_33 (sw_out 0 3 rfl (by decide) (fun i hi => by rcases i with _ | _ | _ | i <;> first | exact absurd hi (by omega) | assumption)) (by decide) ?_
      refine ge_aload_n 0 DX10_greedy_84 rfl ?_
      refine ge_getR (i := 287) DX10_greedy_85 fl_X10_68 is_0 (by decide) rfl ?_
      refine ge_getI DX10_greedy_88 fl_X10_217 is_287 (by decide) rfl ?_
      exact ge_iret rfl DX10_greedy_91
abbrev gX10_least (K : Kt) (X : Xt) := GE (R := Int32) K rmX10_least X cX10_least 3 RX10 (some .int) (finM K X ιI 0 0)
set_option maxHeartbeats 4000000 in
set_option maxRecDepth 100000 in
theorem okX10_least (l : Launch) (X : Xt) (m0 : Mem) (a1 : Int32) (a2 : Int32) : Ct l yX10_least cX10_least 3 (some .int) rmX10_least ιI X [.ref (xad X 0), .int a1, .int a2] m0 (fX10_least m0 a1 a2) := by
  refine ct_of (own := RX10) (ls := [(0, .ref (xad X 0)), (1, .int a1), (2, .int a2)]) (by decide) rfl rfl (Nat.le_of_ble_eq_true rfl) (fun K => ?_)
  show gX10_least K X 0 0 0 [(0, .ref (xad X 0)), (1, .int a1), (2, .int a2)] [] m0 (fX10_least m0 a1 a2)
  delta fX10_least
  refine ge_iload_n 1 DX10_least_0 rfl ?_
  refine ge_callSi0 (st := []) cm_X10_202 DX10_least_1 (okX10_isTreeSet (kl K) X m0 a1) rfl rfl (Nat.le_of_ble_eq_true rfl) (by decide) ⟨rfl, rfl⟩ ⟨Nat.zero_le _, Nat.zero_le _⟩ (fun r2 m1 => ?_)
  refine ge_jn (P := fun k => ∀ (m3 : Mem), gX10_least K X 0 0 16 [(0, .ref (xad X 0))] [] m3 (k m3)) (fun m3 => ?_) (fun j16 hj16 => ?_)
  · refine ge_aload_n 0 DX10_least_16 rfl ?_
    refine ge_sipush (v := (-1001 : Int32)) DX10_least_17 rfl ?_
    refine ge_callVi0 (st := []) cm_X10_103 DX10_least_20 is_0 rfl (okX10_refuse (kl K) X m3 (-1001 : Int32)) rfl rfl (Nat.le_of_ble_eq_true rfl) (by decide) ⟨rfl, rfl⟩ ⟨Nat.zero_le _, Nat.zero_le _⟩ (fun r5 m4 => ?_)
    exact ge_iret rfl DX10_least_23
  refine ge_if_eq (tgt := 16) DX10_least_4 (by decide) ?_ ?_
  · refine ge_sub [0] rfl ?_
    exact hj16 m1
  · refine ge_iload_n 2 DX10_least_7 rfl ?_
    refine ge_iconst (v := (0 : Int32)) DX10_least_8 rfl ?_
    refine ge_iconst (v := (1 : Int32)) DX10_least_9 rfl ?_
    refine ge_callSi0 (st := []) cm_X10_99 DX10_least_10 (okX10_within (kl K) X m1 a2 (0 : Int32) (1 : Int32)) rfl rfl (Nat.le_of_ble_eq_true rfl) (by decide) ⟨rfl, rfl⟩ ⟨Nat.zero_le _, Nat.zero_le _⟩ (fun r7 m6 => ?_)
    refine ge_if_ne (tgt := 24) DX10_least_13 (by decide) ?_ ?_
    · refine ge_sub [0] rfl ?_
      exact hj16 m6
    · refine ge_aload_n 0 DX10_least_24 rfl ?_
      refine ge_getR (i := 287) DX10_least_25 fl_X10_68 is_0 (by decide) rfl ?_
      refine ge_iload_n 1 DX10_least_28 rfl ?_
      refine ge_callVv0 (st := []) cm_X10_220 DX10_least_29 is_287 rfl (okX8_growLeast (kl K) X m6 a1) rfl rfl (Nat.le_of_ble_eq_true rfl) (by decide) ⟨rfl, rfl⟩ ⟨Nat.zero_le _, Nat.zero_le _⟩ (fun m8 => ?_)
      refine ge_iload_n 2 DX10_least_32 rfl ?_
      refine ge_if_ne (tgt := 46) DX10_least_33 (by decide) ?_ ?_
      · refine ge_aload_n 0 DX10_least_36 rfl ?_
        refine ge_getR (i := 287) DX10_least_37 fl_X10_68 is_0 (by decide) rfl ?_
        refine ge_getI DX10_least_40 fl_X10_208 is_287 (by decide) rfl ?_
        refine ge_goto (tgt := 53) DX10_least_43 (by decide) ?_
        exact ge_iret rfl DX10_least_53
      · refine ge_aload_n 0 DX10_least_46 rfl ?_
        refine ge_getR (i := 287) DX10_least_47 fl_X10_68 is_0 (by decide) rfl ?_
        refine ge_getI DX10_least_50 fl_X10_214 is_287 (by decide) rfl ?_
        exact ge_iret rfl DX10_least_53
abbrev gX10_leaf (K : Kt) (X : Xt) := GE (R := Int32) K rmX10_leaf X cX10_leaf 3 RX10 (some .int) (finM K X ιI 0 0)
set_option maxHeartbeats 4000000 in
set_option maxRecDepth 100000 in
theorem okX10_leaf (l : Launch) (X : Xt) (m0 : Mem) (a1 : Int32) (a2 : Int32) : Ct l yX10_leaf cX10_leaf 3 (some .int) rmX10_leaf ιI X [.ref (xad X 0), .int a1, .int a2] m0 (fX10_leaf m0 a1 a2) := by
  refine ct_of (own := RX10) (ls := [(0, .ref (xad X 0)), (1, .int a1), (2, .int a2)]) (by decide) rfl rfl (Nat.le_of_ble_eq_true rfl) (fun K => ?_)
  show gX10_leaf K X 0 0 0 [(0, .ref (xad X 0)), (1, .int a1), (2, .int a2)] [] m0 (fX10_leaf m0 a1 a2)
  delta fX10_leaf
  refine ge_iload_n 1 DX10_leaf_0 rfl ?_
  refine ge_callSi0 (st := []) cm_X10_202 DX10_leaf_1 (okX10_isTreeSet (kl K) X m0 a1) rfl rfl (Nat.le_of_ble_eq_true rfl) (by decide) ⟨rfl, rfl⟩ ⟨Nat.zero_le _, Nat.zero_le _⟩ (fun r2 m1 => ?_)
  refine ge_jn (P := fun k => ∀ (m3 : Mem), gX10_leaf K X 0 0 14 [(0, .ref (xad X 0))] [] m3 (k m3)) (fun m3 => ?_) (fun j14 hj14 => ?_)
  · refine ge_aload_n 0 DX10_leaf_14 rfl ?_
    refine ge_sipush (v := (-1001 : Int32)) DX10_leaf_15 rfl ?_
    refine ge_callVi0 (st := []) cm_X10_103 DX10_leaf_18 is_0 rfl (okX10_refuse (kl K) X m3 (-1001 : Int32)) rfl rfl (Nat.le_of_ble_eq_true rfl) (by decide) ⟨rfl, rfl⟩ ⟨Nat.zero_le _, Nat.zero_le _⟩ (fun r5 m4 => ?_)
    exact ge_iret rfl DX10_leaf_21
  refine ge_if_eq (tgt := 14) DX10_leaf_4 (by decide) ?_ ?_
  · refine ge_sub [0] rfl ?_
    exact hj14 m1
  · refine ge_iload_n 2 DX10_leaf_7 rfl ?_
    refine ge_callSi0 (st := []) cm_X10_165 DX10_leaf_8 (okX10_isWord (kl K) X m1 a2) rfl rfl (Nat.le_of_ble_eq_true rfl) (by decide) ⟨rfl, rfl⟩ ⟨Nat.zero_le _, Nat.zero_le _⟩ (fun r7 m6 => ?_)
    refine ge_if_ne (tgt := 22) DX10_leaf_11 (by decide) ?_ ?_
    · refine ge_sub [0] rfl ?_
      exact hj14 m6
    · refine ge_aload_n 0 DX10_leaf_22 rfl ?_
      refine ge_getR (i := 287) DX10_leaf_23 fl_X10_68 is_0 (by decide) rfl ?_
      refine ge_iload_n 1 DX10_leaf_26 rfl ?_
      refine ge_iload_n 2 DX10_leaf_27 rfl ?_
      refine ge_callVi0 (st := []) cm_X10_223 DX10_leaf_28 is_287 rfl (okX8_candidatesFor (kl K) X m6 a1 a2) rfl rfl (Nat.le_of_ble_eq_true rfl) (by decide) ⟨rfl, rfl⟩ ⟨Nat.zero_le _, Nat.zero_le _⟩ (fun r9 m8 => ?_)
      exact ge_iret rfl DX10_leaf_31
abbrev gX10_isLetter (K : Kt) (X : Xt) := GE (R := Int32) K rmX10_isLetter X cX10_isLetter 1 RX10 (some .boolean) (finM K X ιI 0 0)
set_option maxHeartbeats 4000000 in
set_option maxRecDepth 100000 in
theorem okX10_isLetter (l : Launch) (X : Xt) (m0 : Mem) (a0 : Int32) : Ct l yX10_isLetter cX10_isLetter 1 (some .boolean) rmX10_isLetter ιI X [.int a0] m0 (fX10_isLetter m0 a0) := by
  refine ct_of (own := RX10) (ls := [(0, .int a0)]) (by decide) rfl rfl (Nat.le_of_ble_eq_true rfl) (fun K => ?_)
  show gX10_isLetter K X 0 0 0 [(0, .int a0)] [] m0 (fX10_isLetter m0 a0)
  delta fX10_isLetter
  refine ge_iload_n 0 DX10_isLetter_0 rfl ?_
  refine ge_iconst (v := (0 : Int32)) DX10_isLetter_1 rfl ?_
  refine ge_bipush (v := (7 : Int32)) DX10_isLetter_2 rfl ?_
  refine ge_callSi0 (st := []) cm_X10_99 DX10_isLetter_4 (okX10_within (kl K) X m0 a0 (0 : Int32) (7 : Int32)) rfl rfl (Nat.le_of_ble_eq_true rfl) (by decide) ⟨rfl, rfl⟩ ⟨Nat.zero_le _, Nat.zero_le _⟩ (fun r2 m1 => ?_)
  exact ge_zret rfl DX10_isLetter_7
abbrev gX10_field (K : Kt) (X : Xt) := GE (R := Int32) K rmX10_field X cX10_field 6 RX10 (some .int) (finM K X ιI 0 0)
set_option maxHeartbeats 4000000 in
set_option maxRecDepth 100000 in
theorem okX10_field (l : Launch) (X : Xt) (m0 : Mem) (a1 : Int32) (a2 : Int32) (a3 : Int32) : Ct l yX10_field cX10_field 6 (some .int) rmX10_field ιI X [.ref (xad X 0), .int a1, .int a2, .int a3] m0 (fX10_field m0 a1 a2 a3) := by
  refine ct_of (own := RX10) (ls := [(0, .ref (xad X 0)), (1, .int a1), (2, .int a2), (3, .int a3)]) (by decide) rfl rfl (Nat.le_of_ble_eq_true rfl) (fun K => ?_)
  show gX10_field K X 0 0 0 [(0, .ref (xad X 0)), (1, .int a1), (2, .int a2), (3, .int a3)] [] m0 (fX10_field m0 a1 a2 a3)
  delta fX10_field
  refine ge_aload_n 0 DX10_field_0 rfl ?_
  refine ge_getR (i := 9) DX10_field_1 fl_X10_51 is_0 (by decide) rfl ?_
  refine ge_iload_n 1 DX10_field_4 rfl ?_
  refine ge_callVi0 (st := []) cm_X10_123 DX10_field_5 is_9 rfl (okX4_has (kl K) X m0 a1) rfl rfl (Nat.le_of_ble_eq_true rfl) (by decide) ⟨rfl, rfl⟩ ⟨Nat.zero_le _, Nat.zero_le _⟩ (fun r2 m1 => ?_)
  refine ge_jn (P := fun k => ∀ (m3 : Mem), gX10_field K X 0 0 27 [(0, .ref (xad X 0))] [] m3 (k m3)) (fun m3 => ?_) (fun j27 hj27 => ?_)
  · refine ge_aload_n 0 DX10_field_27 rfl ?_
    refine ge_sipush (v := (-1001 : Int32)) DX10_field_28 rfl ?_
    refine ge_callVi0 (st := []) cm_X10_103 DX10_field_31 is_0 rfl (okX10_refuse (kl K) X m3 (-1001 : Int32)) rfl rfl (Nat.le_of_ble_eq_true rfl) (by decide) ⟨rfl, rfl⟩ ⟨Nat.zero_le _, Nat.zero_le _⟩ (fun r5 m4 => ?_)
    exact ge_iret rfl DX10_field_34
  refine ge_if_eq (tgt := 27) DX10_field_8 (by decide) ?_ ?_
  · refine ge_sub [0] rfl ?_
    exact hj27 m1
  · refine ge_iload_n 2 DX10_field_11 rfl ?_
    refine ge_callSi0 (st := []) cm_X10_226 DX10_field_12 (okX10_isLetter (kl K) X m1 a2) rfl rfl (Nat.le_of_ble_eq_true rfl) (by decide) ⟨rfl, rfl⟩ ⟨Nat.zero_le _, Nat.zero_le _⟩ (fun r7 m6 => ?_)
    refine ge_if_eq (tgt := 27) DX10_field_15 (by decide) ?_ ?_
    · refine ge_sub [0] rfl ?_
      exact hj27 m6
    · refine ge_iload_n 3 DX10_field_18 rfl ?_
      refine ge_iconst (v := (0 : Int32)) DX10_field_19 rfl ?_
      refine ge_iconst (v := (2 : Int32)) DX10_field_20 rfl ?_
      refine ge_callSi0 (st := []) cm_X10_99 DX10_field_21 (okX10_within (kl K) X m6 a3 (0 : Int32) (2 : Int32)) rfl rfl (Nat.le_of_ble_eq_true rfl) (by decide) ⟨rfl, rfl⟩ ⟨Nat.zero_le _, Nat.zero_le _⟩ (fun r9 m8 => ?_)
      refine ge_if_ne (tgt := 35) DX10_field_24 (by decide) ?_ ?_
      · refine ge_sub [0] rfl ?_
        exact hj27 m8
      · refine ge_aload_n 0 DX10_field_35 rfl ?_
        refine ge_getR (i := 9) DX10_field_36 fl_X10_51 is_0 (by decide) rfl ?_
        refine ge_getR (i := 10) DX10_field_39 fl_X10_127 is_9 (by decide) rfl ?_
        refine ge_iload_n 1 DX10_field_42 rfl ?_
        refine ge_aaldF DX10_field_43 (fun hb10 => ?_)
        refine ge_astore (ls' := [(4, .ref (xad X (11 + 22 * ix a1))), (0, .ref (xad X 0)), (1, .int a1), (2, .int a2), (3, .int a3)]) DX10_field_44 (by decide) rfl ?_
        refine ge_aload 0 DX10_field_46 rfl ?_
        refine ge_getR (i := ((11 + 22 * ix a1) + 1)) DX10_field_48 fl_X10_229 (isF hb10) (by decide) rfl ?_
        refine ge_iload_n 3 DX10_field_51 rfl ?_
        refine ge_aaldD DX10_field_52 (is3_4 (isF hb10)) (fun hb11 => ?_)
        refine ge_astore (ls' := [(5, .ref (xad X (((11 + 22 * ix a1) + 1) + 5 + 2 * ix a2))), (4, .ref (xad X (11 + 22 * ix a1))), (0, .ref (xad X 0)), (1, .int a1), (2, .int a2), (3, .int a3)]) DX10_field_53 (by decide) rfl ?_
        refine ge_aload 0 DX10_field_55 rfl ?_
        refine ge_getI DX10_field_57 fl_X10_233 (isD (is3_4 (isF hb10)) hb11) (by decide) rfl ?_
        refine ge_if_ne (tgt := 65) DX10_field_60 (by decide) ?_ ?_
        · refine ge_iconst (v := (-1 : Int32)) DX10_field_63 rfl ?_
          exact ge_iret rfl DX10_field_64
        · refine ge_iload_n 5 DX10_field_65 rfl ?_
          refine ge_ite (fun hx12 => ?_) (fun hx12 => ?_)
          · rw [hx12]
            refine ge_lsw (tgt := 92) DX10_field_66 rfl rfl (by decide) ?_
            refine ge_aload 0 DX10_field_92 rfl ?_
            refine ge_getI DX10_field_94 fl_X10_233 (isD (is3_4 (isF hb10)) hb11) (by decide) rfl ?_
            exact ge_iret rfl DX10_field_97
          refine ge_ite (fun hx13 => ?_) (fun hx13 => ?_)
          · rw [hx13]
            refine ge_lsw (tgt := 98) DX10_field_66 rfl rfl (by decide) ?_
            refine ge_aload 0 DX10_field_98 rfl ?_
            refine ge_getI DX10_field_100 fl_X10_238 (isD (is3_4 (isF hb10)) hb11) (by decide) rfl ?_
            exact ge_iret rfl DX10_field_103
          refine ge_lsw (tgt := 104) DX10_field_66 rfl (lsw_out2 hx12 hx13) (by decide) ?_
          refine ge_aload 1 DX10_field_104 rfl ?_
          refine ge_iload_n 4 DX10_field_106 rfl ?_
          refine ge_callVi0 (st := []) cm_X10_241 DX10_field_107 (isF hb10) rfl (okX3_placeOf (kl K) X (11 + 22 * ix a1) (isF hb10) m8 a2) rfl rfl (Nat.le_of_ble_eq_true rfl) (by decide) ⟨rfl, rfl⟩ ⟨Nat.zero_le _, Nat.zero_le _⟩ (fun r15 m14 => ?_)
          exact ge_iret rfl DX10_field_110
abbrev gX10_hasField (K : Kt) (X : Xt) := GE (R := Int32) K rmX10_hasField X cX10_hasField 3 RX10 (some .boolean) (finM K X ιI 0 0)
set_option maxHeartbeats 4000000 in
set_option maxRecDepth 100000 in
theorem okX10_hasField (l : Launch) (X : Xt) (m0 : Mem) (a1 : Int32) (a2 : Int32) : Ct l yX10_hasField cX10_hasField 3 (some .boolean) rmX10_hasField ιI X [.ref (xad X 0), .int a1, .int a2] m0 (fX10_hasField m0 a1 a2) := by
  refine ct_of (own := RX10) (ls := [(0, .ref (xad X 0)), (1, .int a1), (2, .int a2)]) (by decide) rfl rfl (Nat.le_of_ble_eq_true rfl) (fun K => ?_)
  show gX10_hasField K X 0 0 0 [(0, .ref (xad X 0)), (1, .int a1), (2, .int a2)] [] m0 (fX10_hasField m0 a1 a2)
  delta fX10_hasField
  refine ge_aload_n 0 DX10_hasField_0 rfl ?_
  refine ge_getR (i := 9) DX10_hasField_1 fl_X10_51 is_0 (by decide) rfl ?_
  refine ge_iload_n 1 DX10_hasField_4 rfl ?_
  refine ge_callVi0 (st := []) cm_X10_123 DX10_hasField_5 is_9 rfl (okX4_has (kl K) X m0 a1) rfl rfl (Nat.le_of_ble_eq_true rfl) (by decide) ⟨rfl, rfl⟩ ⟨Nat.zero_le _, Nat.zero_le _⟩ (fun r2 m1 => ?_)
  refine ge_if_eq (tgt := 42) DX10_hasField_8 (by decide) ?_ ?_
  · refine ge_iconst (v := (0 : Int32)) DX10_hasField_42 rfl ?_
    exact ge_zretc rfl rfl DX10_hasField_43
  · refine ge_iload_n 2 DX10_hasField_11 rfl ?_
    refine ge_callSi0 (st := []) cm_X10_226 DX10_hasField_12 (okX10_isLetter (kl K) X m1 a2) rfl rfl (Nat.le_of_ble_eq_true rfl) (by decide) ⟨rfl, rfl⟩ ⟨Nat.zero_le _, Nat.zero_le _⟩ (fun r4 m3 => ?_)
    refine ge_if_eq (tgt := 42) DX10_hasField_15 (by decide) ?_ ?_
    · refine ge_iconst (v := (0 : Int32)) DX10_hasField_42 rfl ?_
      exact ge_zretc rfl rfl DX10_hasField_43
    · refine ge_aload_n 0 DX10_hasField_18 rfl ?_
      refine ge_getR (i := 9) DX10_hasField_19 fl_X10_51 is_0 (by decide) rfl ?_
      refine ge_getR (i := 10) DX10_hasField_22 fl_X10_127 is_9 (by decide) rfl ?_
      refine ge_iload_n 1 DX10_hasField_25 rfl ?_
      refine ge_aaldF DX10_hasField_26 (fun hb5 => ?_)
      refine ge_getR (i := ((11 + 22 * ix a1) + 1)) DX10_hasField_27 fl_X10_229 (isF hb5) (by decide) rfl ?_
      refine ge_iload_n 2 DX10_hasField_30 rfl ?_
      refine ge_aaldD DX10_hasField_31 (is3_4 (isF hb5)) (fun hb6 => ?_)
      refine ge_getI DX10_hasField_32 fl_X10_233 (isD (is3_4 (isF hb5)) hb6) (by decide) rfl ?_
      refine ge_if_le (tgt := 42) DX10_hasField_35 (by decide) ?_ ?_
      · refine ge_iconst (v := (1 : Int32)) DX10_hasField_38 rfl ?_
        refine ge_goto (tgt := 43) DX10_hasField_39 (by decide) ?_
        exact ge_zretc rfl rfl DX10_hasField_43
      · refine ge_iconst (v := (0 : Int32)) DX10_hasField_42 rfl ?_
        exact ge_zretc rfl rfl DX10_hasField_43
abbrev gX10_taken (K : Kt) (X : Xt) := GE (R := Int32) K rmX10_taken X cX10_taken 4 RX10 (some .int) (finM K X ιI 0 0)
set_option maxHeartbeats 4000000 in
set_option maxRecDepth 100000 in
theorem okX10_taken (l : Launch) (X : Xt) (m0 : Mem) (a1 : Int32) (a2 : Int32) (a3 : Int32) : Ct l yX10_taken cX10_taken 4 (some .int) rmX10_taken ιI X [.ref (xad X 0), .int a1, .int a2, .int a3] m0 (fX10_taken m0 a1 a2 a3) := by
  refine ct_of (own := RX10) (ls := [(0, .ref (xad X 0)), (1, .int a1), (2, .int a2), (3, .int a3)]) (by decide) rfl rfl (Nat.le_of_ble_eq_true rfl) (fun K => ?_)
  show gX10_taken K X 0 0 0 [(0, .ref (xad X 0)), (1, .int a1), (2, .int a2), (3, .int a3)] [] m0 (fX10_taken m0 a1 a2 a3)
  delta fX10_taken
  refine ge_aload_n 0 DX10_taken_0 rfl ?_
  refine ge_iload_n 1 DX10_taken_1 rfl ?_
  refine ge_iload_n 2 DX10_taken_2 rfl ?_
  refine ge_callVi0 (st := []) cm_X10_244 DX10_taken_3 is_0 rfl (okX10_hasField (kl K) X m0 a1 a2) rfl rfl (Nat.le_of_ble_eq_true rfl) (by decide) ⟨rfl, rfl⟩ ⟨Nat.zero_le _, Nat.zero_le _⟩ (fun r2 m1 => ?_)
  refine ge_jn (P := fun k => ∀ (m3 : Mem), gX10_taken K X 0 0 16 [(0, .ref (xad X 0))] [] m3 (k m3)) (fun m3 => ?_) (fun j16 hj16 => ?_)
  · refine ge_aload_n 0 DX10_taken_16 rfl ?_
    refine ge_sipush (v := (-1001 : Int32)) DX10_taken_17 rfl ?_
    refine ge_callVi0 (st := []) cm_X10_103 DX10_taken_20 is_0 rfl (okX10_refuse (kl K) X m3 (-1001 : Int32)) rfl rfl (Nat.le_of_ble_eq_true rfl) (by decide) ⟨rfl, rfl⟩ ⟨Nat.zero_le _, Nat.zero_le _⟩ (fun r5 m4 => ?_)
    exact ge_iret rfl DX10_taken_23
  refine ge_if_eq (tgt := 16) DX10_taken_6 (by decide) ?_ ?_
  · refine ge_sub [0] rfl ?_
    exact hj16 m1
  · refine ge_iload_n 3 DX10_taken_9 rfl ?_
    refine ge_callSi0 (st := []) cm_X10_165 DX10_taken_10 (okX10_isWord (kl K) X m1 a3) rfl rfl (Nat.le_of_ble_eq_true rfl) (by decide) ⟨rfl, rfl⟩ ⟨Nat.zero_le _, Nat.zero_le _⟩ (fun r7 m6 => ?_)
    refine ge_if_ne (tgt := 24) DX10_taken_13 (by decide) ?_ ?_
    · refine ge_sub [0] rfl ?_
      exact hj16 m6
    · refine ge_aload_n 0 DX10_taken_24 rfl ?_
      refine ge_getR (i := 9) DX10_taken_25 fl_X10_51 is_0 (by decide) rfl ?_
      refine ge_getR (i := 10) DX10_taken_28 fl_X10_127 is_9 (by decide) rfl ?_
      refine ge_iload_n 1 DX10_taken_31 rfl ?_
      refine ge_aaldF DX10_taken_32 (fun hb8 => ?_)
      refine ge_getR (i := ((11 + 22 * ix a1) + 1)) DX10_taken_33 fl_X10_229 (isF hb8) (by decide) rfl ?_
      refine ge_iload_n 2 DX10_taken_36 rfl ?_
      refine ge_aaldD DX10_taken_37 (is3_4 (isF hb8)) (fun hb9 => ?_)
      refine ge_iload_n 3 DX10_taken_38 rfl ?_
      refine ge_callVi0 (st := []) cm_X10_247 DX10_taken_39 (isD (is3_4 (isF hb8)) hb9) rfl (okX2_numberIn (kl K) X (((11 + 22 * ix a1) + 1) + 5 + 2 * ix a2) (isD (is3_4 (isF hb8)) hb9) m6 a3) rfl rfl (Nat.le_of_ble_eq_true rfl) (by decide) ⟨rfl, rfl⟩ ⟨Nat.zero_le _, Nat.zero_le _⟩ (fun r11 m10 => ?_)
      exact ge_iret rfl DX10_taken_42
abbrev gX10_laid (K : Kt) (X : Xt) := GE (R := Int32) K rmX10_laid X cX10_laid 6 RX10 (some .int) (finM K X ιI 0 0)
set_option maxHeartbeats 4000000 in
set_option maxRecDepth 100000 in
theorem okX10_laid (l : Launch) (X : Xt) (m0 : Mem) (a1 : Int32) (a2 : Int32) (a3 : Int32) (a4 : Int32) : Ct l yX10_laid cX10_laid 6 (some .int) rmX10_laid ιI X [.ref (xad X 0), .int a1, .int a2, .int a3, .int a4] m0 (fX10_laid m0 a1 a2 a3 a4) := by
  refine ct_of (own := RX10) (ls := [(0, .ref (xad X 0)), (1, .int a1), (2, .int a2), (3, .int a3), (4, .int a4)]) (by decide) rfl rfl (Nat.le_of_ble_eq_true rfl) (fun K => ?_)
  show gX10_laid K X 0 0 0 [(0, .ref (xad X 0)), (1, .int a1), (2, .int a2), (3, .int a3), (4, .int a4)] [] m0 (fX10_laid m0 a1 a2 a3 a4)
  delta fX10_laid
  refine ge_aload_n 0 DX10_laid_0 rfl ?_
  refine ge_iload_n 1 DX10_laid_1 rfl ?_
  refine ge_iload_n 2 DX10_laid_2 rfl ?_
  refine ge_callVi0 (st := []) cm_X10_244 DX10_laid_3 is_0 rfl (okX10_hasField (kl K) X m0 a1 a2) rfl rfl (Nat.le_of_ble_eq_true rfl) (by decide) ⟨rfl, rfl⟩ ⟨Nat.zero_le _, Nat.zero_le _⟩ (fun r2 m1 => ?_)
  refine ge_jn (P := fun k => ∀ (m3 : Mem), gX10_laid K X 0 0 16 [(0, .ref (xad X 0))] [] m3 (k m3)) (fun m3 => ?_) (fun j16 hj16 => ?_)
  · refine ge_aload_n 0 DX10_laid_16 rfl ?_
    refine ge_sipush (v := (-1001 : Int32)) DX10_laid_17 rfl ?_
    refine ge_callVi0 (st := []) cm_X10_103 DX10_laid_20 is_0 rfl (okX10_refuse (kl K) X m3 (-1001 : Int32)) rfl rfl (Nat.le_of_ble_eq_true rfl) (by decide) ⟨rfl, rfl⟩ ⟨Nat.zero_le _, Nat.zero_le _⟩ (fun r5 m4 => ?_)
    exact ge_iret rfl DX10_laid_23
  refine ge_if_eq (tgt := 16) DX10_laid_6 (by decide) ?_ ?_
  · refine ge_sub [0] rfl ?_
    exact hj16 m1
  · refine ge_iload_n 3 DX10_laid_9 rfl ?_
    refine ge_callSi0 (st := []) cm_X10_165 DX10_laid_10 (okX10_isWord (kl K) X m1 a3) rfl rfl (Nat.le_of_ble_eq_true rfl) (by decide) ⟨rfl, rfl⟩ ⟨Nat.zero_le _, Nat.zero_le _⟩ (fun r7 m6 => ?_)
    refine ge_if_ne (tgt := 24) DX10_laid_13 (by decide) ?_ ?_
    · refine ge_sub [0] rfl ?_
      exact hj16 m6
    · refine ge_aload_n 0 DX10_laid_24 rfl ?_
      refine ge_getR (i := 9) DX10_laid_25 fl_X10_51 is_0 (by decide) rfl ?_
      refine ge_getR (i := 10) DX10_laid_28 fl_X10_127 is_9 (by decide) rfl ?_
      refine ge_iload_n 1 DX10_laid_31 rfl ?_
      refine ge_aaldF DX10_laid_32 (fun hb8 => ?_)
      refine ge_getR (i := ((11 + 22 * ix a1) + 1)) DX10_laid_33 fl_X10_229 (isF hb8) (by decide) rfl ?_
      refine ge_iload_n 2 DX10_laid_36 rfl ?_
      refine ge_aaldD DX10_laid_37 (is3_4 (isF hb8)) (fun hb9 => ?_)
      refine ge_astore (ls' := [(5, .ref (xad X (((11 + 22 * ix a1) + 1) + 5 + 2 * ix a2))), (0, .ref (xad X 0)), (1, .int a1), (2, .int a2), (3, .int a3), (4, .int a4)]) DX10_laid_38 (by decide) rfl ?_
      refine ge_aload 0 DX10_laid_40 rfl ?_
      refine ge_iload 5 DX10_laid_42 rfl ?_
      refine ge_callVi0 (st := []) cm_X10_250 DX10_laid_44 (isD (is3_4 (isF hb8)) hb9) rfl (okX2_canHold (kl K) X (((11 + 22 * ix a1) + 1) + 5 + 2 * ix a2) (isD (is3_4 (isF hb8)) hb9) m6 a4) rfl rfl (Nat.le_of_ble_eq_true rfl) (by decide) ⟨rfl, rfl⟩ ⟨Nat.zero_le _, Nat.zero_le _⟩ (fun r11 m10 => ?_)
      refine ge_if_eq (tgt := 61) DX10_laid_47 (by decide) ?_ ?_
      · refine ge_aload_n 1 DX10_laid_61 rfl ?_
        refine ge_sipush (v := (-1001 : Int32)) DX10_laid_62 rfl ?_
        refine ge_callVi0 (st := []) cm_X10_103 DX10_laid_65 is_0 rfl (okX10_refuse (kl K) X m10 (-1001 : Int32)) rfl rfl (Nat.le_of_ble_eq_true rfl) (by decide) ⟨rfl, rfl⟩ ⟨Nat.zero_le _, Nat.zero_le _⟩ (fun r13 m12 => ?_)
        exact ge_iret rfl DX10_laid_68
      · refine ge_aload 0 DX10_laid_50 rfl ?_
        refine ge_iload_n 4 DX10_laid_52 rfl ?_
        refine ge_iload 5 DX10_laid_53 rfl ?_
        refine ge_callVi0 (st := []) cm_X10_253 DX10_laid_55 (isD (is3_4 (isF hb8)) hb9) rfl (okX2_putInto (kl K) X (((11 + 22 * ix a1) + 1) + 5 + 2 * ix a2) (isD (is3_4 (isF hb8)) hb9) m10 a3 a4) rfl rfl (Nat.le_of_ble_eq_true rfl) (by decide) ⟨rfl, rfl⟩ ⟨Nat.zero_le _, Nat.zero_le _⟩ (fun r15 m14 => ?_)
        refine ge_goto (tgt := 68) DX10_laid_58 (by decide) ?_
        exact ge_iret rfl DX10_laid_68
abbrev gX10_remember (K : Kt) (X : Xt) := GE (R := Unit) K rmX10_remember X cX10_remember 1 RX10 none (finM K X ιV 0 0)
set_option maxHeartbeats 4000000 in
set_option maxRecDepth 100000 in
theorem okX10_remember (l : Launch) (X : Xt) (m0 : Mem) : Ct l yX10_remember cX10_remember 1 none rmX10_remember ιV X [.ref (xad X 0)] m0 (fX10_remember m0) := by
  refine ct_of (own := RX10) (ls := [(0, .ref (xad X 0))]) (by decide) rfl rfl (Nat.le_of_ble_eq_true rfl) (fun K => ?_)
  show gX10_remember K X 0 0 0 [(0, .ref (xad X 0))] [] m0 (fX10_remember m0)
  delta fX10_remember
  refine ge_aload_n 0 DX10_remember_0 rfl ?_
  refine ge_getI DX10_remember_1 fl_X10_36 is_0 (by decide) rfl ?_
  refine ge_bipush (v := (16 : Int32)) DX10_remember_4 rfl ?_
  refine ge_jn (P := fun k => ∀ (m1 : Mem), gX10_remember K X 0 0 32 [(0, .ref (xad X 0))] [] m1 (k m1)) (fun m1 => ?_) (fun j32 hj32 => ?_)
  · refine ge_aload_n 0 DX10_remember_32 rfl ?_
    refine ge_getR (i := 7) DX10_remember_33 fl_X10_29 is_0 (by decide) rfl ?_
    refine ge_aload_n 0 DX10_remember_36 rfl ?_
    refine ge_getI DX10_remember_37 fl_X10_33 is_0 (by decide) rfl ?_
    refine ge_aload_n 0 DX10_remember_40 rfl ?_
    refine ge_getI DX10_remember_41 fl_X10_36 is_0 (by decide) rfl ?_
    refine ge_iadd DX10_remember_44 ?_
    refine ge_bipush (v := (16 : Int32)) DX10_remember_45 rfl ?_
    refine ge_iremc DX10_remember_47 rfl ?_
    refine ge_aaldP DX10_remember_48 (fun hb2 => ?_)
    refine ge_aload_n 0 DX10_remember_49 rfl ?_
    refine ge_getR (i := 283) DX10_remember_50 fl_X10_62 is_0 (by decide) rfl ?_
    refine ge_callVv0 (st := []) cm_X10_328 DX10_remember_53 (isP hb2) rfl (okX1_become (kl K) X (298 + 4 * ix (((m1 0 12) + (m1 0 13)) % (16 : Int32))) (isP hb2) m1 283 is_283) rfl rfl (Nat.le_of_ble_eq_true rfl) (by decide) ⟨rfl, rfl⟩ ⟨Nat.zero_le _, Nat.zero_le _⟩ (fun m3 => ?_)
    refine ge_aload_n 0 DX10_remember_56 rfl ?_
    refine ge_dup DX10_remember_57 rfl ?_
    refine ge_getI DX10_remember_58 fl_X10_36 is_0 (by decide) rfl ?_
    refine ge_iconst (v := (1 : Int32)) DX10_remember_61 rfl ?_
    refine ge_iadd DX10_remember_62 ?_
    refine ge_put DX10_remember_63 fp_X10_36 is_0 (by decide) rfl (fun m4 => ?_)
    exact ge_vret rfl DX10_remember_66
  refine ge_icmp_ne (tgt := 32) DX10_remember_6 (by decide) ?_ ?_
  · refine ge_aload_n 0 DX10_remember_9 rfl ?_
    refine ge_aload_n 0 DX10_remember_10 rfl ?_
    refine ge_getI DX10_remember_11 fl_X10_33 is_0 (by decide) rfl ?_
    refine ge_iconst (v := (1 : Int32)) DX10_remember_14 rfl ?_
    refine ge_iadd DX10_remember_15 ?_
    refine ge_bipush (v := (16 : Int32)) DX10_remember_16 rfl ?_
    refine ge_iremc DX10_remember_18 rfl ?_
    refine ge_put DX10_remember_19 fp_X10_33 is_0 (by decide) rfl (fun m5 => ?_)
    refine ge_aload_n 0 DX10_remember_22 rfl ?_
    refine ge_dup DX10_remember_23 rfl ?_
    refine ge_getI DX10_remember_24 fl_X10_36 is_0 (by decide) rfl ?_
    refine ge_iconst (v := (1 : Int32)) DX10_remember_27 rfl ?_
    refine ge_isub DX10_remember_28 ?_
    refine ge_put DX10_remember_29 fp_X10_36 is_0 (by decide) rfl (fun m6 => ?_)
    exact hj32 m6
  · exact hj32 m0
abbrev gX10_hold (K : Kt) (X : Xt) := GE (R := Int32) K rmX10_hold X cX10_hold 4 RX10 (some .int) (finM K X ιI 0 0)
set_option maxHeartbeats 4000000 in
set_option maxRecDepth 100000 in
theorem okX10_hold (l : Launch) (X : Xt) (m0 : Mem) (a1 : Int32) (a2 : Int32) : Ct l yX10_hold cX10_hold 4 (some .int) rmX10_hold ιI X [.ref (xad X 0), .int a1, .int a2] m0 (fX10_hold m0 a1 a2) := by
  refine ct_of (own := RX10) (ls := [(0, .ref (xad X 0)), (1, .int a1), (2, .int a2)]) (by decide) rfl rfl (Nat.le_of_ble_eq_true rfl) (fun K => ?_)
  show gX10_hold K X 0 0 0 [(0, .ref (xad X 0)), (1, .int a1), (2, .int a2)] [] m0 (fX10_hold m0 a1 a2)
  delta fX10_hold
  refine ge_iload_n 1 DX10_hold_0 rfl ?_
  refine ge_callSi0 (st := []) cm_X10_226 DX10_hold_1 (okX10_isLetter (kl K) X m0 a1) rfl rfl (Nat.le_of_ble_eq_true rfl) (by decide) ⟨rfl, rfl⟩ ⟨Nat.zero_le _, Nat.zero_le _⟩ (fun r2 m1 => ?_)
  refine ge_jn (P := fun k => ∀ (m3 : Mem), gX10_hold K X 0 0 19 [(0, .ref (xad X 0))] [] m3 (k m3)) (fun m3 => ?_) (fun j19 hj19 => ?_)
  · refine ge_aload_n 0 DX10_hold_19 rfl ?_
    refine ge_sipush (v := (-1001 : Int32)) DX10_hold_20 rfl ?_
    refine ge_callVi0 (st := []) cm_X10_103 DX10_hold_23 is_0 rfl (okX10_refuse (kl K) X m3 (-1001 : Int32)) rfl rfl (Nat.le_of_ble_eq_true rfl) (by decide) ⟨rfl, rfl⟩ ⟨Nat.zero_le _, Nat.zero_le _⟩ (fun r5 m4 => ?_)
    exact ge_iret rfl DX10_hold_26
  refine ge_if_eq (tgt := 19) DX10_hold_4 (by decide) ?_ ?_
  · refine ge_sub [0] rfl ?_
    exact hj19 m1
  · refine ge_iload_n 2 DX10_hold_7 rfl ?_
    refine ge_bipush (v := (-128 : Int32)) DX10_hold_8 rfl ?_
    refine ge_sipush (v := (255 : Int32)) DX10_hold_10 rfl ?_
    refine ge_callSi0 (st := []) cm_X10_99 DX10_hold_13 (okX10_within (kl K) X m1 a2 (-128 : Int32) (255 : Int32)) rfl rfl (Nat.le_of_ble_eq_true rfl) (by decide) ⟨rfl, rfl⟩ ⟨Nat.zero_le _, Nat.zero_le _⟩ (fun r7 m6 => ?_)
    refine ge_if_ne (tgt := 27) DX10_hold_16 (by decide) ?_ ?_
    · refine ge_sub [0] rfl ?_
      exact hj19 m6
    · refine ge_aload_n 0 DX10_hold_27 rfl ?_
      refine ge_callVv0 (st := []) cm_X10_256 DX10_hold_28 is_0 rfl (okX10_remember (kl K) X m6) rfl rfl (Nat.le_of_ble_eq_true rfl) (by decide) ⟨rfl, rfl⟩ ⟨Nat.zero_le _, Nat.zero_le _⟩ (fun m8 => ?_)
      refine ge_aload_n 0 DX10_hold_31 rfl ?_
      refine ge_getR (i := 283) DX10_hold_32 fl_X10_62 is_0 (by decide) rfl ?_
      refine ge_getR (i := 285) DX10_hold_35 fl_X10_259 is_283 (by decide) rfl ?_
      refine ge_iload_n 1 DX10_hold_38 rfl ?_
      refine ge_iald DX10_hold_39 is_285 al_285 ?_
      refine ge_topi (fun x9 => ?_)
      refine ge_istore_n (ls' := [(3, .int x9), (0, .ref (xad X 0)), (1, .int a1), (2, .int a2)]) DX10_hold_40 (by decide) rfl ?_
      refine ge_aload_n 1 DX10_hold_41 rfl ?_
      refine ge_getR (i := 283) DX10_hold_42 fl_X10_62 is_0 (by decide) rfl ?_
      refine ge_getR (i := 285) DX10_hold_45 fl_X10_259 is_283 (by decide) rfl ?_
      refine ge_iload_n 2 DX10_hold_48 rfl ?_
      refine ge_iload_n 3 DX10_hold_49 rfl ?_
      refine ge_iast DX10_hold_50 is_285 al_285 (fun m10 => ?_)
      refine ge_iload_n 0 DX10_hold_51 rfl ?_
      exact ge_iret rfl DX10_hold_52
abbrev gX10_make (K : Kt) (X : Xt) := GE (R := Int32) K rmX10_make X cX10_make 3 RX10 (some .int) (finM K X ιI 0 0)
set_option maxHeartbeats 4000000 in
set_option maxRecDepth 100000 in
theorem okX10_make (l : Launch) (X : Xt) (m0 : Mem) (a1 : Int32) : Ct l yX10_make cX10_make 3 (some .int) rmX10_make ιI X [.ref (xad X 0), .int a1] m0 (fX10_make m0 a1) := by
  refine ct_of (own := RX10) (ls := [(0, .ref (xad X 0)), (1, .int a1)]) (by decide) rfl rfl (Nat.le_of_ble_eq_true rfl) (fun K => ?_)
  show gX10_make K X 0 0 0 [(0, .ref (xad X 0)), (1, .int a1)] [] m0 (fX10_make m0 a1)
  delta fX10_make
  refine ge_aload_n 0 DX10_make_0 rfl ?_
  refine ge_getR (i := 9) DX10_make_1 fl_X10_51 is_0 (by decide) rfl ?_
  refine ge_iload_n 1 DX10_make_4 rfl ?_
  refine ge_callVi0 (st := []) cm_X10_123 DX10_make_5 is_9 rfl (okX4_has (kl K) X m0 a1) rfl rfl (Nat.le_of_ble_eq_true rfl) (by decide) ⟨rfl, rfl⟩ ⟨Nat.zero_le _, Nat.zero_le _⟩ (fun r2 m1 => ?_)
  refine ge_if_ne (tgt := 19) DX10_make_8 (by decide) ?_ ?_
  · refine ge_aload_n 0 DX10_make_11 rfl ?_
    refine ge_sipush (v := (-1001 : Int32)) DX10_make_12 rfl ?_
    refine ge_callVi0 (st := []) cm_X10_103 DX10_make_15 is_0 rfl (okX10_refuse (kl K) X m1 (-1001 : Int32)) rfl rfl (Nat.le_of_ble_eq_true rfl) (by decide) ⟨rfl, rfl⟩ ⟨Nat.zero_le _, Nat.zero_le _⟩ (fun r4 m3 => ?_)
    exact ge_iret rfl DX10_make_18
  · refine ge_aload_n 0 DX10_make_19 rfl ?_
    refine ge_getR (i := 9) DX10_make_20 fl_X10_51 is_0 (by decide) rfl ?_
    refine ge_getR (i := 10) DX10_make_23 fl_X10_127 is_9 (by decide) rfl ?_
    refine ge_iload_n 1 DX10_make_26 rfl ?_
    refine ge_aaldF DX10_make_27 (fun hb5 => ?_)
    refine ge_aload_n 0 DX10_make_28 rfl ?_
    refine ge_getR (i := 283) DX10_make_29 fl_X10_62 is_0 (by decide) rfl ?_
    refine ge_getR (i := 285) DX10_make_32 fl_X10_259 is_283 (by decide) rfl ?_
    refine ge_callVi0 (st := []) cm_X10_262 DX10_make_35 (isF hb5) rfl (okX3_madeOf (kl K) X (11 + 22 * ix a1) (isF hb5) m1 285 is_285) rfl rfl (Nat.le_of_ble_eq_true rfl) (by decide) ⟨rfl, rfl⟩ ⟨Nat.zero_le _, Nat.zero_le _⟩ (fun r7 m6 => ?_)
    refine ge_istore_n (ls' := [(2, .int r7), (0, .ref (xad X 0)), (1, .int a1)]) DX10_make_38 (by decide) rfl ?_
    refine ge_iload_n 0 DX10_make_39 rfl ?_
    refine ge_iconst (v := (-1 : Int32)) DX10_make_40 rfl ?_
    refine ge_icmp_ne (tgt := 52) DX10_make_41 (by decide) ?_ ?_
    · refine ge_aload_n 1 DX10_make_44 rfl ?_
      refine ge_sipush (v := (-1001 : Int32)) DX10_make_45 rfl ?_
      refine ge_callVi0 (st := []) cm_X10_103 DX10_make_48 is_0 rfl (okX10_refuse (kl K) X m6 (-1001 : Int32)) rfl rfl (Nat.le_of_ble_eq_true rfl) (by decide) ⟨rfl, rfl⟩ ⟨Nat.zero_le _, Nat.zero_le _⟩ (fun r9 m8 => ?_)
      exact ge_iret rfl DX10_make_51
    · refine ge_aload_n 1 DX10_make_52 rfl ?_
      refine ge_getR (i := 275) DX10_make_53 fl_X10_55 is_0 (by decide) rfl ?_
      refine ge_iload_n 0 DX10_make_56 rfl ?_
      refine ge_callVi0 (st := []) cm_X10_168 DX10_make_57 is_275 rfl (okX6_meaningOf (kl K) X m6 r7) rfl rfl (Nat.le_of_ble_eq_true rfl) (by decide) ⟨rfl, rfl⟩ ⟨Nat.zero_le _, Nat.zero_le _⟩ (fun r11 m10 => ?_)
      refine ge_iload_n 2 DX10_make_60 rfl ?_
      refine ge_icmp_ne (tgt := 68) DX10_make_61 (by decide) ?_ ?_
      · refine ge_iload_n 0 DX10_make_64 rfl ?_
        refine ge_goto (tgt := 75) DX10_make_65 (by decide) ?_
        exact ge_iret rfl DX10_make_75
      · refine ge_aload_n 1 DX10_make_68 rfl ?_
        refine ge_sipush (v := (-1003 : Int32)) DX10_make_69 rfl ?_
        refine ge_callVi0 (st := []) cm_X10_103 DX10_make_72 is_0 rfl (okX10_refuse (kl K) X m10 (-1003 : Int32)) rfl rfl (Nat.le_of_ble_eq_true rfl) (by decide) ⟨rfl, rfl⟩ ⟨Nat.zero_le _, Nat.zero_le _⟩ (fun r13 m12 => ?_)
        exact ge_iret rfl DX10_make_75
abbrev gX10_writeForm (K : Kt) (X : Xt) := GE (R := Unit) K rmX10_writeForm X cX10_writeForm 4 RX10 none (finM K X ιV 0 0)
set_option maxHeartbeats 4000000 in
set_option maxRecDepth 100000 in
theorem lX10_writeForm_L13 (K : Kt) (X : Xt) {k52 : Mem → Option (Unit × Mem)} (q3 : Nat) (y4 : Int32) (hq3 : Is 3 q3) (hk52 : ∀ (m6 : Mem), gX10_writeForm K X 0 0 52 [] [] m6 (k52 m6)) :
    ∀ (n : Nat) (m2 : Mem) (x5 : Int32), gX10_writeForm K X 0 0 13 [(0, .ref (xad X 0)), (1, .ref (xad X q3)), (2, .int y4), (3, .int x5)] [] m2 (fX10_writeForm_L13 k52 q3 y4 n m2 x5) := by
  intro n
  induction n with
  | zero => intro m2 x5; exact ge_none
  | succ n ih =>
    intro m2 x5
    show gX10_writeForm K X 0 0 13 [(0, .ref (xad X 0)), (1, .ref (xad X q3)), (2, .int y4), (3, .int x5)] [] m2 (fX10_writeForm_L13_b k52 q3 y4 (fX10_writeForm_L13 k52 q3 y4 n) m2 x5)
    delta fX10_writeForm_L13_b
    refine ge_iload_n 3 DX10_writeForm_13 rfl ?_
    refine ge_aload_n 1 DX10_writeForm_14 rfl ?_
    refine ge_getI DX10_writeForm_15 fl_X10_142 hq3 (by decide) rfl ?_
    refine ge_icmp_ge (tgt := 52) DX10_writeForm_18 (by decide) ?_ ?_
    · refine ge_aload_n 0 DX10_writeForm_21 rfl ?_
      refine ge_getR (i := 1) DX10_writeForm_22 fl_X10_14 is_0 (by decide) rfl ?_
      refine ge_bipush (v := (32 : Int32)) DX10_writeForm_25 rfl ?_
      refine ge_callVv0 (st := []) cm_X10_110 DX10_writeForm_27 is_1 rfl (okX0_add (kl K) X 1 is_1 m2 (32 : Int32)) rfl rfl (Nat.le_of_ble_eq_true rfl) (by decide) ⟨rfl, rfl⟩ ⟨Nat.zero_le _, Nat.zero_le _⟩ (fun m8 => ?_)
      refine ge_aload_n 0 DX10_writeForm_30 rfl ?_
      refine ge_getR (i := 1) DX10_writeForm_31 fl_X10_14 is_0 (by decide) rfl ?_
      refine ge_aload_n 1 DX10_writeForm_34 rfl ?_
      refine ge_iload_n 3 DX10_writeForm_35 rfl ?_
      refine ge_callVr0 (st := [.ref (xad X 1)]) cm_X10_335 DX10_writeForm_36 hq3 rfl (okX3_fieldAt (kl K) X q3 hq3 m8 x5) rfl rfl (Nat.le_of_ble_eq_true rfl) (by decide) ⟨rfl, rfl⟩ ⟨Nat.zero_le _, Nat.zero_le _⟩ (fun r10 m9 hr10 => ?_)
      refine ge_iload_n 2 DX10_writeForm_39 rfl ?_
      refine ge_callVi0 (st := [.ref (xad X 1)]) cm_X10_247 DX10_writeForm_40 hr10 rfl (okX2_numberIn (kl K) X r10 hr10 m9 y4) rfl rfl (Nat.le_of_ble_eq_true rfl) (by decide) ⟨rfl, rfl⟩ ⟨Nat.zero_le _, Nat.zero_le _⟩ (fun r12 m11 => ?_)
      refine ge_callVv0 (st := []) cm_X10_270 DX10_writeForm_43 is_1 rfl (okX0_addNumber (kl K) X 1 is_1 m11 r12) rfl rfl (Nat.le_of_ble_eq_true rfl) (by decide) ⟨rfl, rfl⟩ ⟨Nat.zero_le _, Nat.zero_le _⟩ (fun m13 => ?_)
      refine ge_iinc 3 (v := (x5 + (1 : Int32))) (ls' := [(3, .int (x5 + (1 : Int32))), (0, .ref (xad X 0)), (1, .ref (xad X q3)), (2, .int y4)]) DX10_writeForm_46 rfl rfl (by decide) rfl ?_
      refine ge_goto (tgt := 13) DX10_writeForm_49 (by decide) ?_
      refine ge_sub [1, 2, 3, 0] rfl ?_
      exact ih m13 (x5 + (1 : Int32))
    · refine ge_sub [] rfl ?_
      exact hk52 m2
set_option maxHeartbeats 4000000 in
set_option maxRecDepth 100000 in
theorem okX10_writeForm (l : Launch) (X : Xt) (m0 : Mem) (a1 : Nat) (ha1 : Is 3 a1) (a2 : Int32) : Ct l yX10_writeForm cX10_writeForm 4 none rmX10_writeForm ιV X [.ref (xad X 0), .ref (xad X a1), .int a2] m0 (fX10_writeForm m0 a1 a2) := by
  refine ct_of (own := RX10) (ls := [(0, .ref (xad X 0)), (1, .ref (xad X a1)), (2, .int a2)]) (by decide) rfl rfl (Nat.le_of_ble_eq_true rfl) (fun K => ?_)
  show gX10_writeForm K X 0 0 0 [(0, .ref (xad X 0)), (1, .ref (xad X a1)), (2, .int a2)] [] m0 (fX10_writeForm m0 a1 a2)
  delta fX10_writeForm
  refine ge_aload_n 0 DX10_writeForm_0 rfl ?_
  refine ge_getR (i := 1) DX10_writeForm_1 fl_X10_14 is_0 (by decide) rfl ?_
  refine ge_aload_n 1 DX10_writeForm_4 rfl ?_
  refine ge_getI DX10_writeForm_5 fl_X10_148 ha1 (by decide) rfl ?_
  refine ge_callVv0 (st := []) cm_X10_332 DX10_writeForm_8 is_1 rfl (okX0_addName (kl K) X 1 is_1 m0 (m0 a1 1)) rfl rfl (Nat.le_of_ble_eq_true rfl) (by decide) ⟨rfl, rfl⟩ ⟨Nat.zero_le _, Nat.zero_le _⟩ (fun m1 => ?_)
  refine ge_iconst (v := (0 : Int32)) DX10_writeForm_11 rfl ?_
  refine ge_istore_n (ls' := [(3, .int (0 : Int32)), (0, .ref (xad X 0)), (1, .ref (xad X a1)), (2, .int a2)]) DX10_writeForm_12 (by decide) rfl ?_
  refine ge_sub [1, 2, 3, 0] rfl ?_
  refine lX10_writeForm_L13 K X a1 a2 ha1 (fun m7 => ?_) 5000 m1 (0 : Int32)
  · exact ge_vret rfl DX10_writeForm_52
abbrev gX10_write (K : Kt) (X : Xt) := GE (R := Int32) K rmX10_write X cX10_write 3 RX10 (some .int) (finM K X ιI 0 0)
set_option maxHeartbeats 4000000 in
set_option maxRecDepth 100000 in
theorem okX10_write (l : Launch) (X : Xt) (m0 : Mem) (a1 : Int32) : Ct l yX10_write cX10_write 3 (some .int) rmX10_write ιI X [.ref (xad X 0), .int a1] m0 (fX10_write m0 a1) := by
  refine ct_of (own := RX10) (ls := [(0, .ref (xad X 0)), (1, .int a1)]) (by decide) rfl rfl (Nat.le_of_ble_eq_true rfl) (fun K => ?_)
  show gX10_write K X 0 0 0 [(0, .ref (xad X 0)), (1, .int a1)] [] m0 (fX10_write m0 a1)
  delta fX10_write
  refine ge_iload_n 1 DX10_write_0 rfl ?_
  refine ge_callSi0 (st := []) cm_X10_165 DX10_write_1 (okX10_isWord (kl K) X m0 a1) rfl rfl (Nat.le_of_ble_eq_true rfl) (by decide) ⟨rfl, rfl⟩ ⟨Nat.zero_le _, Nat.zero_le _⟩ (fun r2 m1 => ?_)
  refine ge_if_ne (tgt := 15) DX10_write_4 (by decide) ?_ ?_
  · refine ge_aload_n 0 DX10_write_7 rfl ?_
    refine ge_sipush (v := (-1001 : Int32)) DX10_write_8 rfl ?_
    refine ge_callVi0 (st := []) cm_X10_103 DX10_write_11 is_0 rfl (okX10_refuse (kl K) X m1 (-1001 : Int32)) rfl rfl (Nat.le_of_ble_eq_true rfl) (by decide) ⟨rfl, rfl⟩ ⟨Nat.zero_le _, Nat.zero_le _⟩ (fun r4 m3 => ?_)
    exact ge_iret rfl DX10_write_14
  · refine ge_aload_n 0 DX10_write_15 rfl ?_
    refine ge_getR (i := 275) DX10_write_16 fl_X10_55 is_0 (by decide) rfl ?_
    refine ge_iload_n 1 DX10_write_19 rfl ?_
    refine ge_callVi0 (st := []) cm_X10_168 DX10_write_20 is_275 rfl (okX6_meaningOf (kl K) X m1 a1) rfl rfl (Nat.le_of_ble_eq_true rfl) (by decide) ⟨rfl, rfl⟩ ⟨Nat.zero_le _, Nat.zero_le _⟩ (fun r6 m5 => ?_)
    refine ge_istore_n (ls' := [(2, .int r6), (0, .ref (xad X 0)), (1, .int a1)]) DX10_write_23 (by decide) rfl ?_
    refine ge_aload_n 1 DX10_write_24 rfl ?_
    refine ge_getR (i := 1) DX10_write_25 fl_X10_14 is_0 (by decide) rfl ?_
    refine ge_iconst (v := (0 : Int32)) DX10_write_28 rfl ?_
    refine ge_put DX10_write_29 fp_X10_107 is_1 (by decide) rfl (fun m7 => ?_)
    refine ge_aload_n 1 DX10_write_32 rfl ?_
    refine ge_getR (i := 9) DX10_write_33 fl_X10_51 is_0 (by decide) rfl ?_
    refine ge_iload_n 0 DX10_write_36 rfl ?_
    refine ge_callVi0 (st := []) cm_X10_123 DX10_write_37 is_9 rfl (okX4_has (kl K) X m7 r6) rfl rfl (Nat.le_of_ble_eq_true rfl) (by decide) ⟨rfl, rfl⟩ ⟨Nat.zero_le _, Nat.zero_le _⟩ (fun r9 m8 => ?_)
    refine ge_jn (P := fun k => ∀ (m10 : Mem), gX10_write K X 0 0 88 [(0, .ref (xad X 0))] [] m10 (k m10)) (fun m10 => ?_) (fun j88 hj88 => ?_)
    · refine ge_aload_n 0 DX10_write_88 rfl ?_
      refine ge_getR (i := 1) DX10_write_89 fl_X10_14 is_0 (by decide) rfl ?_
      refine ge_getI DX10_write_92 fl_X10_107 is_1 (by decide) rfl ?_
      exact ge_iret rfl DX10_write_95
    refine ge_if_eq (tgt := 60) DX10_write_40 (by decide) ?_ ?_
    · refine ge_aload_n 1 DX10_write_60 rfl ?_
      refine ge_getR (i := 1) DX10_write_61 fl_X10_14 is_0 (by decide) rfl ?_
      refine ge_iload_n 0 DX10_write_64 rfl ?_
      refine ge_bipush (v := (12 : Int32)) DX10_write_65 rfl ?_
      refine ge_jn (P := fun k => ∀ (v11 : Int32), gX10_write K X 0 0 77 [(0, .ref (xad X 0)), (1, .int a1)] [.int v11, .ref (xad X 1)] m8 (k v11)) (fun v11 => ?_) (fun j77 hj77 => ?_)
      · refine ge_callVv0 (st := []) cm_X10_110 DX10_write_77 is_1 rfl (okX0_add (kl K) X 1 is_1 m8 v11) rfl rfl (Nat.le_of_ble_eq_true rfl) (by decide) ⟨rfl, rfl⟩ ⟨Nat.zero_le _, Nat.zero_le _⟩ (fun m12 => ?_)
        refine ge_aload_n 0 DX10_write_80 rfl ?_
        refine ge_getR (i := 1) DX10_write_81 fl_X10_14 is_0 (by decide) rfl ?_
        refine ge_iload_n 1 DX10_write_84 rfl ?_
        refine ge_callVv0 (st := []) cm_X10_270 DX10_write_85 is_1 rfl (okX0_addNumber (kl K) X 1 is_1 m12 a1) rfl rfl (Nat.le_of_ble_eq_true rfl) (by decide) ⟨rfl, rfl⟩ ⟨Nat.zero_le _, Nat.zero_le _⟩ (fun m13 => ?_)
        refine ge_sub [0] rfl ?_
        exact hj88 m13
      refine ge_icmp_ne (tgt := 75) DX10_write_67 (by decide) ?_ ?_
      · refine ge_bipush (v := (63 : Int32)) DX10_write_70 rfl ?_
        refine ge_goto (tgt := 77) DX10_write_72 (by decide) ?_
        refine ge_sub [1, 2] rfl ?_
        exact hj77 (63 : Int32)
      · refine ge_bipush (v := (33 : Int32)) DX10_write_75 rfl ?_
        refine ge_sub [1, 2] rfl ?_
        exact hj77 (33 : Int32)
    · refine ge_aload_n 1 DX10_write_43 rfl ?_
      refine ge_aload_n 1 DX10_write_44 rfl ?_
      refine ge_getR (i := 9) DX10_write_45 fl_X10_51 is_0 (by decide) rfl ?_
      refine ge_getR (i := 10) DX10_write_48 fl_X10_127 is_9 (by decide) rfl ?_
      refine ge_iload_n 0 DX10_write_51 rfl ?_
      refine ge_aaldF DX10_write_52 (fun hb14 => ?_)
      refine ge_iload_n 2 DX10_write_53 rfl ?_
      refine ge_callVv0 (st := []) cm_X10_266 DX10_write_54 is_0 rfl (okX10_writeForm (kl K) X m8 (11 + 22 * ix r6) (isF hb14) a1) rfl rfl (Nat.le_of_ble_eq_true rfl) (by decide) ⟨rfl, rfl⟩ ⟨Nat.zero_le _, Nat.zero_le _⟩ (fun m15 => ?_)
      refine ge_goto (tgt := 88) DX10_write_57 (by decide) ?_
      refine ge_sub [1] rfl ?_
      exact hj88 m15
abbrev gX10_written (K : Kt) (X : Xt) := GE (R := Int32) K rmX10_written X cX10_written 2 RX10 (some .int) (finM K X ιI 0 0)
set_option maxHeartbeats 4000000 in
set_option maxRecDepth 100000 in
theorem okX10_written (l : Launch) (X : Xt) (m0 : Mem) (a1 : Int32) : Ct l yX10_written cX10_written 2 (some .int) rmX10_written ιI X [.ref (xad X 0), .int a1] m0 (fX10_written m0 a1) := by
  refine ct_of (own := RX10) (ls := [(0, .ref (xad X 0)), (1, .int a1)]) (by decide) rfl rfl (Nat.le_of_ble_eq_true rfl) (fun K => ?_)
  show gX10_written K X 0 0 0 [(0, .ref (xad X 0)), (1, .int a1)] [] m0 (fX10_written m0 a1)
  delta fX10_written
  refine ge_aload_n 0 DX10_written_0 rfl ?_
  refine ge_getR (i := 1) DX10_written_1 fl_X10_14 is_0 (by decide) rfl ?_
  refine ge_iload_n 1 DX10_written_4 rfl ?_
  refine ge_callVi0 (st := []) cm_X10_273 DX10_written_5 is_1 rfl (okX0_at (kl K) X 1 is_1 m0 a1) rfl rfl (Nat.le_of_ble_eq_true rfl) (by decide) ⟨rfl, rfl⟩ ⟨Nat.zero_le _, Nat.zero_le _⟩ (fun r2 m1 => ?_)
  exact ge_iret rfl DX10_written_8
abbrev gX10_read (K : Kt) (X : Xt) := GE (R := Int32) K rmX10_read X cX10_read 2 RX10 (some .int) (finM K X ιI 0 0)
set_option maxHeartbeats 4000000 in
set_option maxRecDepth 100000 in
theorem okX10_read (l : Launch) (X : Xt) (m0 : Mem) : Ct l yX10_read cX10_read 2 (some .int) rmX10_read ιI X [.ref (xad X 0)] m0 (fX10_read m0) := by
  refine ct_of (own := RX10) (ls := [(0, .ref (xad X 0))]) (by decide) rfl rfl (Nat.le_of_ble_eq_true rfl) (fun K => ?_)
  show gX10_read K X 0 0 0 [(0, .ref (xad X 0))] [] m0 (fX10_read m0)
  delta fX10_read
  refine ge_aload_n 0 DX10_read_0 rfl ?_
  refine ge_getR (i := 295) DX10_read_1 fl_X10_86 is_0 (by decide) rfl ?_
  refine ge_callVi0 (st := []) cm_X10_276 DX10_read_4 is_295 rfl (okX5_wordOrFault (kl K) X m0) rfl rfl (Nat.le_of_ble_eq_true rfl) (by decide) ⟨rfl, rfl⟩ ⟨Nat.zero_le _, Nat.zero_le _⟩ (fun r2 m1 => ?_)
  refine ge_istore_n (ls' := [(1, .int r2), (0, .ref (xad X 0))]) DX10_read_7 (by decide) rfl ?_
  refine ge_aload_n 1 DX10_read_8 rfl ?_
  refine ge_getR (i := 281) DX10_read_9 fl_X10_59 is_0 (by decide) rfl ?_
  refine ge_iconst (v := (0 : Int32)) DX10_read_12 rfl ?_
  refine ge_put DX10_read_13 fp_X10_107 is_281 (by decide) rfl (fun m3 => ?_)
  refine ge_iload_n 0 DX10_read_16 rfl ?_
  exact ge_iret rfl DX10_read_17
abbrev gX10_isCell (K : Kt) (X : Xt) := GE (R := Int32) K rmX10_isCell X cX10_isCell 1 RX10 (some .boolean) (finM K X ιI 0 0)
set_option maxHeartbeats 4000000 in
set_option maxRecDepth 100000 in
theorem okX10_isCell (l : Launch) (X : Xt) (m0 : Mem) (a0 : Int32) : Ct l yX10_isCell cX10_isCell 1 (some .boolean) rmX10_isCell ιI X [.int a0] m0 (fX10_isCell m0 a0) := by
  refine ct_of (own := RX10) (ls := [(0, .int a0)]) (by decide) rfl rfl (Nat.le_of_ble_eq_true rfl) (fun K => ?_)
  show gX10_isCell K X 0 0 0 [(0, .int a0)] [] m0 (fX10_isCell m0 a0)
  delta fX10_isCell
  refine ge_iload_n 0 DX10_isCell_0 rfl ?_
  refine ge_iconst (v := (0 : Int32)) DX10_isCell_1 rfl ?_
  refine ge_bipush (v := (31 : Int32)) DX10_isCell_2 rfl ?_
  refine ge_callSi0 (st := []) cm_X10_99 DX10_isCell_4 (okX10_within (kl K) X m0 a0 (0 : Int32) (31 : Int32)) rfl rfl (Nat.le_of_ble_eq_true rfl) (by decide) ⟨rfl, rfl⟩ ⟨Nat.zero_le _, Nat.zero_le _⟩ (fun r2 m1 => ?_)
  exact ge_zret rfl DX10_isCell_7
abbrev gX10_put (K : Kt) (X : Xt) := GE (R := Int32) K rmX10_put X cX10_put 4 RX10 (some .int) (finM K X ιI 0 0)
set_option maxHeartbeats 4000000 in
set_option maxRecDepth 100000 in
theorem okX10_put (l : Launch) (X : Xt) (m0 : Mem) (a1 : Int32) (a2 : Int32) : Ct l yX10_put cX10_put 4 (some .int) rmX10_put ιI X [.ref (xad X 0), .int a1, .int a2] m0 (fX10_put m0 a1 a2) := by
  refine ct_of (own := RX10) (ls := [(0, .ref (xad X 0)), (1, .int a1), (2, .int a2)]) (by decide) rfl rfl (Nat.le_of_ble_eq_true rfl) (fun K => ?_)
  show gX10_put K X 0 0 0 [(0, .ref (xad X 0)), (1, .int a1), (2, .int a2)] [] m0 (fX10_put m0 a1 a2)
  delta fX10_put
  refine ge_iload_n 1 DX10_put_0 rfl ?_
  refine ge_callSi0 (st := []) cm_X10_279 DX10_put_1 (okX10_isCell (kl K) X m0 a1) rfl rfl (Nat.le_of_ble_eq_true rfl) (by decide) ⟨rfl, rfl⟩ ⟨Nat.zero_le _, Nat.zero_le _⟩ (fun r2 m1 => ?_)
  refine ge_jn (P := fun k => ∀ (m3 : Mem), gX10_put K X 0 0 14 [(0, .ref (xad X 0))] [] m3 (k m3)) (fun m3 => ?_) (fun j14 hj14 => ?_)
  · refine ge_aload_n 0 DX10_put_14 rfl ?_
    refine ge_sipush (v := (-1001 : Int32)) DX10_put_15 rfl ?_
    refine ge_callVi0 (st := []) cm_X10_103 DX10_put_18 is_0 rfl (okX10_refuse (kl K) X m3 (-1001 : Int32)) rfl rfl (Nat.le_of_ble_eq_true rfl) (by decide) ⟨rfl, rfl⟩ ⟨Nat.zero_le _, Nat.zero_le _⟩ (fun r5 m4 => ?_)
    exact ge_iret rfl DX10_put_21
  refine ge_if_eq (tgt := 14) DX10_put_4 (by decide) ?_ ?_
  · refine ge_sub [0] rfl ?_
    exact hj14 m1
  · refine ge_iload_n 2 DX10_put_7 rfl ?_
    refine ge_callSi0 (st := []) cm_X10_165 DX10_put_8 (okX10_isWord (kl K) X m1 a2) rfl rfl (Nat.le_of_ble_eq_true rfl) (by decide) ⟨rfl, rfl⟩ ⟨Nat.zero_le _, Nat.zero_le _⟩ (fun r7 m6 => ?_)
    refine ge_if_ne (tgt := 22) DX10_put_11 (by decide) ?_ ?_
    · refine ge_sub [0] rfl ?_
      exact hj14 m6
    · refine ge_aload_n 0 DX10_put_22 rfl ?_
      refine ge_callVv0 (st := []) cm_X10_256 DX10_put_23 is_0 rfl (okX10_remember (kl K) X m6) rfl rfl (Nat.le_of_ble_eq_true rfl) (by decide) ⟨rfl, rfl⟩ ⟨Nat.zero_le _, Nat.zero_le _⟩ (fun m8 => ?_)
      refine ge_aload_n 0 DX10_put_26 rfl ?_
      refine ge_getR (i := 283) DX10_put_27 fl_X10_62 is_0 (by decide) rfl ?_
      refine ge_getR (i := 284) DX10_put_30 fl_X10_282 is_283 (by decide) rfl ?_
      refine ge_iload_n 1 DX10_put_33 rfl ?_
      refine ge_iald DX10_put_34 is_284 al_284 ?_
      refine ge_topi (fun x9 => ?_)
      refine ge_istore_n (ls' := [(3, .int x9), (0, .ref (xad X 0)), (1, .int a1), (2, .int a2)]) DX10_put_35 (by decide) rfl ?_
      refine ge_aload_n 1 DX10_put_36 rfl ?_
      refine ge_getR (i := 283) DX10_put_37 fl_X10_62 is_0 (by decide) rfl ?_
      refine ge_getR (i := 284) DX10_put_40 fl_X10_282 is_283 (by decide) rfl ?_
      refine ge_iload_n 2 DX10_put_43 rfl ?_
      refine ge_iload_n 3 DX10_put_44 rfl ?_
      refine ge_iast DX10_put_45 is_284 al_284 (fun m10 => ?_)
      refine ge_iload_n 0 DX10_put_46 rfl ?_
      exact ge_iret rfl DX10_put_47
abbrev gX10_cell (K : Kt) (X : Xt) := GE (R := Int32) K rmX10_cell X cX10_cell 2 RX10 (some .int) (finM K X ιI 0 0)
set_option maxHeartbeats 4000000 in
set_option maxRecDepth 100000 in
theorem okX10_cell (l : Launch) (X : Xt) (m0 : Mem) (a1 : Int32) : Ct l yX10_cell cX10_cell 2 (some .int) rmX10_cell ιI X [.ref (xad X 0), .int a1] m0 (fX10_cell m0 a1) := by
  refine ct_of (own := RX10) (ls := [(0, .ref (xad X 0)), (1, .int a1)]) (by decide) rfl rfl (Nat.le_of_ble_eq_true rfl) (fun K => ?_)
  show gX10_cell K X 0 0 0 [(0, .ref (xad X 0)), (1, .int a1)] [] m0 (fX10_cell m0 a1)
  delta fX10_cell
  refine ge_iload_n 1 DX10_cell_0 rfl ?_
  refine ge_callSi0 (st := []) cm_X10_279 DX10_cell_1 (okX10_isCell (kl K) X m0 a1) rfl rfl (Nat.le_of_ble_eq_true rfl) (by decide) ⟨rfl, rfl⟩ ⟨Nat.zero_le _, Nat.zero_le _⟩ (fun r2 m1 => ?_)
  refine ge_if_eq (tgt := 19) DX10_cell_4 (by decide) ?_ ?_
  · refine ge_aload_n 0 DX10_cell_19 rfl ?_
    refine ge_sipush (v := (-1001 : Int32)) DX10_cell_20 rfl ?_
    refine ge_callVi0 (st := []) cm_X10_103 DX10_cell_23 is_0 rfl (okX10_refuse (kl K) X m1 (-1001 : Int32)) rfl rfl (Nat.le_of_ble_eq_true rfl) (by decide) ⟨rfl, rfl⟩ ⟨Nat.zero_le _, Nat.zero_le _⟩ (fun r4 m3 => ?_)
    exact ge_iret rfl DX10_cell_26
  · refine ge_aload_n 0 DX10_cell_7 rfl ?_
    refine ge_getR (i := 283) DX10_cell_8 fl_X10_62 is_0 (by decide) rfl ?_
    refine ge_getR (i := 284) DX10_cell_11 fl_X10_282 is_283 (by decide) rfl ?_
    refine ge_iload_n 1 DX10_cell_14 rfl ?_
    refine ge_iald DX10_cell_15 is_284 al_284 ?_
    refine ge_goto (tgt := 26) DX10_cell_16 (by decide) ?_
    exact ge_iret rfl DX10_cell_26
abbrev gX10_copy (K : Kt) (X : Xt) := GE (R := Int32) K rmX10_copy X cX10_copy 4 RX10 (some .int) (finM K X ιI 0 0)
set_option maxHeartbeats 4000000 in
set_option maxRecDepth 100000 in
theorem okX10_copy (l : Launch) (X : Xt) (m0 : Mem) (a1 : Int32) (a2 : Int32) (a3 : Int32) : Ct l yX10_copy cX10_copy 4 (some .int) rmX10_copy ιI X [.ref (xad X 0), .int a1, .int a2, .int a3] m0 (fX10_copy m0 a1 a2 a3) := by
  refine ct_of (own := RX10) (ls := [(0, .ref (xad X 0)), (1, .int a1), (2, .int a2), (3, .int a3)]) (by decide) rfl rfl (Nat.le_of_ble_eq_true rfl) (fun K => ?_)
  show gX10_copy K X 0 0 0 [(0, .ref (xad X 0)), (1, .int a1), (2, .int a2), (3, .int a3)] [] m0 (fX10_copy m0 a1 a2 a3)
  delta fX10_copy
  refine ge_iload_n 1 DX10_copy_0 rfl ?_
  refine ge_callSi0 (st := []) cm_X10_279 DX10_copy_1 (okX10_isCell (kl K) X m0 a1) rfl rfl (Nat.le_of_ble_eq_true rfl) (by decide) ⟨rfl, rfl⟩ ⟨Nat.zero_le _, Nat.zero_le _⟩ (fun r2 m1 => ?_)
  refine ge_jn (P := fun k => ∀ (m3 : Mem), gX10_copy K X 0 0 34 [(0, .ref (xad X 0))] [] m3 (k m3)) (fun m3 => ?_) (fun j34 hj34 => ?_)
  · refine ge_aload_n 0 DX10_copy_34 rfl ?_
    refine ge_sipush (v := (-1001 : Int32)) DX10_copy_35 rfl ?_
    refine ge_callVi0 (st := []) cm_X10_103 DX10_copy_38 is_0 rfl (okX10_refuse (kl K) X m3 (-1001 : Int32)) rfl rfl (Nat.le_of_ble_eq_true rfl) (by decide) ⟨rfl, rfl⟩ ⟨Nat.zero_le _, Nat.zero_le _⟩ (fun r5 m4 => ?_)
    exact ge_iret rfl DX10_copy_41
  refine ge_if_eq (tgt := 34) DX10_copy_4 (by decide) ?_ ?_
  · refine ge_sub [0] rfl ?_
    exact hj34 m1
  · refine ge_iload_n 2 DX10_copy_7 rfl ?_
    refine ge_callSi0 (st := []) cm_X10_279 DX10_copy_8 (okX10_isCell (kl K) X m1 a2) rfl rfl (Nat.le_of_ble_eq_true rfl) (by decide) ⟨rfl, rfl⟩ ⟨Nat.zero_le _, Nat.zero_le _⟩ (fun r7 m6 => ?_)
    refine ge_if_eq (tgt := 34) DX10_copy_11 (by decide) ?_ ?_
    · refine ge_sub [0] rfl ?_
      exact hj34 m6
    · refine ge_iload_n 3 DX10_copy_14 rfl ?_
      refine ge_if_lt (tgt := 34) DX10_copy_15 (by decide) ?_ ?_
      · refine ge_sub [0] rfl ?_
        exact hj34 m6
      · refine ge_iload_n 3 DX10_copy_18 rfl ?_
        refine ge_bipush (v := (32 : Int32)) DX10_copy_19 rfl ?_
        refine ge_iload_n 1 DX10_copy_21 rfl ?_
        refine ge_isub DX10_copy_22 ?_
        refine ge_icmp_gt (tgt := 34) DX10_copy_23 (by decide) ?_ ?_
        · refine ge_sub [0] rfl ?_
          exact hj34 m6
        · refine ge_iload_n 3 DX10_copy_26 rfl ?_
          refine ge_bipush (v := (32 : Int32)) DX10_copy_27 rfl ?_
          refine ge_iload_n 2 DX10_copy_29 rfl ?_
          refine ge_isub DX10_copy_30 ?_
          refine ge_icmp_le (tgt := 42) DX10_copy_31 (by decide) ?_ ?_
          · refine ge_sub [0] rfl ?_
            exact hj34 m6
          · refine ge_aload_n 0 DX10_copy_42 rfl ?_
            refine ge_callVv0 (st := []) cm_X10_256 DX10_copy_43 is_0 rfl (okX10_remember (kl K) X m6) rfl rfl (Nat.le_of_ble_eq_true rfl) (by decide) ⟨rfl, rfl⟩ ⟨Nat.zero_le _, Nat.zero_le _⟩ (fun m8 => ?_)
            refine ge_aload_n 0 DX10_copy_46 rfl ?_
            refine ge_getR (i := 283) DX10_copy_47 fl_X10_62 is_0 (by decide) rfl ?_
            refine ge_getR (i := 284) DX10_copy_50 fl_X10_282 is_283 (by decide) rfl ?_
            refine ge_iload_n 1 DX10_copy_53 rfl ?_
            refine ge_aload_n 0 DX10_copy_54 rfl ?_
            refine ge_getR (i := 283) DX10_copy_55 fl_X10_62 is_0 (by decide) rfl ?_
            refine ge_getR (i := 284) DX10_copy_58 fl_X10_282 is_283 (by decide) rfl ?_
            refine ge_iload_n 2 DX10_copy_61 rfl ?_
            refine ge_iload_n 3 DX10_copy_62 rfl ?_
            refine ge_acopy DX10_copy_63 cp_X10_285 is_284 is_284 al_284 al_284 (by decide) (Nat.le_of_ble_eq_true rfl) (fun m9 => ?_)
            refine ge_iload_n 3 DX10_copy_66 rfl ?_
            exact ge_iret rfl DX10_copy_67
abbrev gX10_holders (K : Kt) (X : Xt) := GE (R := Int32) K rmX10_holders X cX10_holders 4 RX10 (some .int) (finM K X ιI 0 0)
set_option maxHeartbeats 4000000 in
set_option maxRecDepth 100000 in
theorem lX10_holders_L20 (K : Kt) (X : Xt) {k58 : Mem → Int32 → Option (Int32 × Mem)} (y6 : Int32)  (hk58 : ∀ (m9 : Mem) (x10 : Int32), gX10_holders K X 0 0 58 [(2, .int x10)] [] m9 (k58 m9 x10)) :
    ∀ (n : Nat) (m5 : Mem) (x7 : Int32) (x8 : Int32), gX10_holders K X 0 0 20 [(0, .ref (xad X 0)), (1, .int y6), (2, .int x7), (3, .int x8)] [] m5 (fX10_holders_L20 k58 y6 n m5 x7 x8) := by
  intro n
  induction n with
  | zero => intro m5 x7 x8; exact ge_none
  | succ n ih =>
    intro m5 x7 x8
    show gX10_holders K X 0 0 20 [(0, .ref (xad X 0)), (1, .int y6), (2, .int x7), (3, .int x8)] [] m5 (fX10_holders_L20_b k58 y6 (fX10_holders_L20 k58 y6 n) m5 x7 x8)
    delta fX10_holders_L20_b
    refine ge_iload_n 3 DX10_holders_20 rfl ?_
    refine ge_bipush (v := (32 : Int32)) DX10_holders_21 rfl ?_
    refine ge_icmp_ge (tgt := 58) DX10_holders_23 (by decide) ?_ ?_
    · refine ge_aload_n 0 DX10_holders_26 rfl ?_
      refine ge_getR (i := 275) DX10_holders_27 fl_X10_55 is_0 (by decide) rfl ?_
      refine ge_aload_n 0 DX10_holders_30 rfl ?_
      refine ge_getR (i := 283) DX10_holders_31 fl_X10_62 is_0 (by decide) rfl ?_
      refine ge_getR (i := 284) DX10_holders_34 fl_X10_282 is_283 (by decide) rfl ?_
      refine ge_iload_n 3 DX10_holders_37 rfl ?_
      refine ge_iald DX10_holders_38 is_284 al_284 ?_
      refine ge_callVi0 (st := []) cm_X10_168 DX10_holders_39 is_275 rfl (okX6_meaningOf (kl K) X m5 (m5 284 (ix x8))) rfl rfl (Nat.le_of_ble_eq_true rfl) (by decide) ⟨rfl, rfl⟩ ⟨Nat.zero_le _, Nat.zero_le _⟩ (fun r14 m13 => ?_)
      refine ge_iload_n 1 DX10_holders_42 rfl ?_
      refine ge_jn (P := fun k => ∀ (x15 : Int32), gX10_holders K X 0 0 52 [(0, .ref (xad X 0)), (1, .int y6), (2, .int x15), (3, .int x8)] [] m13 (k x15)) (fun x15 => ?_) (fun j52 hj52 => ?_)
      · refine ge_iinc 3 (v := (x8 + (1 : Int32))) (ls' := [(3, .int (x8 + (1 : Int32))), (0, .ref (xad X 0)), (1, .int y6), (2, .int x15)]) DX10_holders_52 rfl rfl (by decide) rfl ?_
        refine ge_goto (tgt := 20) DX10_holders_55 (by decide) ?_
        refine ge_sub [1, 2, 3, 0] rfl ?_
        exact ih m13 x15 (x8 + (1 : Int32))
      refine ge_icmp_ne (tgt := 52) DX10_holders_43 (by decide) ?_ ?_
      · refine ge_iload_n 2 DX10_holders_46 rfl ?_
        refine ge_iconst (v := (1 : Int32)) DX10_holders_47 rfl ?_
        refine ge_iload_n 3 DX10_holders_48 rfl ?_
        refine ge_ishl DX10_holders_49 ?_
        refine ge_ior DX10_holders_50 ?_
        refine ge_topi (fun x16 => ?_)
        refine ge_istore_n (ls' := [(2, .int x16), (0, .ref (xad X 0)), (1, .int y6), (3, .int x8)]) DX10_holders_51 (by decide) rfl ?_
        refine ge_sub [1, 2, 0, 3] rfl ?_
        exact hj52 x16
      · exact hj52 x7
    · refine ge_sub [2] rfl ?_
      exact hk58 m5 x7
set_option maxHeartbeats 4000000 in
set_option maxRecDepth 100000 in
theorem okX10_holders (l : Launch) (X : Xt) (m0 : Mem) (a1 : Int32) : Ct l yX10_holders cX10_holders 4 (some .int) rmX10_holders ιI X [.ref (xad X 0), .int a1] m0 (fX10_holders m0 a1) := by
  refine ct_of (own := RX10) (ls := [(0, .ref (xad X 0)), (1, .int a1)]) (by decide) rfl rfl (Nat.le_of_ble_eq_true rfl) (fun K => ?_)
  show gX10_holders K X 0 0 0 [(0, .ref (xad X 0)), (1, .int a1)] [] m0 (fX10_holders m0 a1)
  delta fX10_holders
  refine ge_aload_n 0 DX10_holders_0 rfl ?_
  refine ge_iload_n 1 DX10_holders_1 rfl ?_
  refine ge_callVi0 (st := []) cm_X10_178 DX10_holders_2 is_0 rfl (okX10_isMeaning (kl K) X m0 a1) rfl rfl (Nat.le_of_ble_eq_true rfl) (by decide) ⟨rfl, rfl⟩ ⟨Nat.zero_le _, Nat.zero_le _⟩ (fun r2 m1 => ?_)
  refine ge_if_ne (tgt := 16) DX10_holders_5 (by decide) ?_ ?_
  · refine ge_aload_n 0 DX10_holders_8 rfl ?_
    refine ge_sipush (v := (-1001 : Int32)) DX10_holders_9 rfl ?_
    refine ge_callVi0 (st := []) cm_X10_103 DX10_holders_12 is_0 rfl (okX10_refuse (kl K) X m1 (-1001 : Int32)) rfl rfl (Nat.le_of_ble_eq_true rfl) (by decide) ⟨rfl, rfl⟩ ⟨Nat.zero_le _, Nat.zero_le _⟩ (fun r4 m3 => ?_)
    exact ge_iret rfl DX10_holders_15
  · refine ge_iconst (v := (0 : Int32)) DX10_holders_16 rfl ?_
    refine ge_istore_n (ls' := [(2, .int (0 : Int32)), (0, .ref (xad X 0)), (1, .int a1)]) DX10_holders_17 (by decide) rfl ?_
    refine ge_iconst (v := (0 : Int32)) DX10_holders_18 rfl ?_
    refine ge_istore_n (ls' := [(3, .int (0 : Int32)), (2, .int (0 : Int32)), (0, .ref (xad X 0)), (1, .int a1)]) DX10_holders_19 (by decide) rfl ?_
    refine ge_sub [2, 3, 1, 0] rfl ?_
    refine lX10_holders_L20 K X a1 (fun m11 x12 => ?_) 5000 m1 (0 : Int32) (0 : Int32)
    · refine ge_iload_n 0 DX10_holders_58 rfl ?_
      exact ge_iret rfl DX10_holders_59
abbrev gX10_walk (K : Kt) (X : Xt) := GE (R := Int32) K rmX10_walk X cX10_walk 6 RX10 (some .int) (finM K X ιI 0 0)
set_option maxHeartbeats 4000000 in
set_option maxRecDepth 100000 in
theorem lX10_walk_L49 (K : Kt) (X : Xt) {k75 : Mem → Option (Int32 × Mem)} (y12 : Int32) (y13 : Int32)  (hk75 : ∀ (m16 : Mem), gX10_walk K X 0 0 75 [(0, .ref (xad X 0)), (3, .int y13)] [] m16 (k75 m16)) :
    ∀ (n : Nat) (m11 : Mem) (x14 : Int32) (x15 : Int32), gX10_walk K X 0 0 49 [(0, .ref (xad X 0)), (2, .int y12), (3, .int y13), (4, .int x14), (5, .int x15)] [] m11 (fX10_walk_L49 k75 y12 y13 n m11 x14 x15) := by
  intro n
  induction n with
  | zero => intro m11 x14 x15; exact ge_none
  | succ n ih =>
    intro m11 x14 x15
    show gX10_walk K X 0 0 49 [(0, .ref (xad X 0)), (2, .int y12), (3, .int y13), (4, .int x14), (5, .int x15)] [] m11 (fX10_walk_L49_b k75 y12 y13 (fX10_walk_L49 k75 y12 y13 n) m11 x14 x15)
    delta fX10_walk_L49_b
    refine ge_iload 4 DX10_walk_49 rfl ?_
    refine ge_iload_n 1 DX10_walk_51 rfl ?_
    refine ge_icmp_ge (tgt := 75) DX10_walk_52 (by decide) ?_ ?_
    · refine ge_iload 3 DX10_walk_55 rfl ?_
      refine ge_if_eq (tgt := 75) DX10_walk_57 (by decide) ?_ ?_
      · refine ge_sub [0, 2] rfl ?_
        exact hk75 m11
      · refine ge_aload_n 0 DX10_walk_60 rfl ?_
        refine ge_getR (i := 296) DX10_walk_61 fl_X10_95 is_0 (by decide) rfl ?_
        refine ge_callVi0 (st := []) cm_X10_294 DX10_walk_64 is_296 rfl (okX9_stepOn (kl K) X m11) rfl rfl (Nat.le_of_ble_eq_true rfl) (by decide) ⟨rfl, rfl⟩ ⟨Nat.zero_le _, Nat.zero_le _⟩ (fun r23 m22 => ?_)
        refine ge_istore (ls' := [(4, .int r23), (0, .ref (xad X 0)), (2, .int y12), (3, .int y13), (5, .int x15)]) DX10_walk_67 (by decide) rfl ?_
        refine ge_iinc 4 (v := (x15 + (1 : Int32))) (ls' := [(5, .int (x15 + (1 : Int32))), (4, .int r23), (0, .ref (xad X 0)), (2, .int y12), (3, .int y13)]) DX10_walk_69 rfl rfl (by decide) rfl ?_
        refine ge_goto (tgt := 49) DX10_walk_72 (by decide) ?_
        refine ge_sub [2, 3, 4, 1, 0] rfl ?_
        exact ih m22 r23 (x15 + (1 : Int32))
    · refine ge_sub [0, 2] rfl ?_
      exact hk75 m11
set_option maxHeartbeats 4000000 in
set_option maxRecDepth 100000 in
theorem okX10_walk (l : Launch) (X : Xt) (m0 : Mem) (a1 : Int32) (a2 : Int32) (a3 : Int32) : Ct l yX10_walk cX10_walk 6 (some .int) rmX10_walk ιI X [.ref (xad X 0), .int a1, .int a2, .int a3] m0 (fX10_walk m0 a1 a2 a3) := by
  refine ct_of (own := RX10) (ls := [(0, .ref (xad X 0)), (1, .int a1), (2, .int a2), (3, .int a3)]) (by decide) rfl rfl (Nat.le_of_ble_eq_true rfl) (fun K => ?_)
  show gX10_walk K X 0 0 0 [(0, .ref (xad X 0)), (1, .int a1), (2, .int a2), (3, .int a3)] [] m0 (fX10_walk m0 a1 a2 a3)
  delta fX10_walk
  refine ge_iload_n 1 DX10_walk_0 rfl ?_
  refine ge_callSi0 (st := []) cm_X10_279 DX10_walk_1 (okX10_isCell (kl K) X m0 a1) rfl rfl (Nat.le_of_ble_eq_true rfl) (by decide) ⟨rfl, rfl⟩ ⟨Nat.zero_le _, Nat.zero_le _⟩ (fun r2 m1 => ?_)
  refine ge_jn (P := fun k => ∀ (m3 : Mem), gX10_walk K X 0 0 27 [(0, .ref (xad X 0))] [] m3 (k m3)) (fun m3 => ?_) (fun j27 hj27 => ?_)
  · refine ge_aload_n 0 DX10_walk_27 rfl ?_
    refine ge_sipush (v := (-1001 : Int32)) DX10_walk_28 rfl ?_
    refine ge_callVi0 (st := []) cm_X10_103 DX10_walk_31 is_0 rfl (okX10_refuse (kl K) X m3 (-1001 : Int32)) rfl rfl (Nat.le_of_ble_eq_true rfl) (by decide) ⟨rfl, rfl⟩ ⟨Nat.zero_le _, Nat.zero_le _⟩ (fun r5 m4 => ?_)
    exact ge_iret rfl DX10_walk_34
  refine ge_if_eq (tgt := 27) DX10_walk_4 (by decide) ?_ ?_
  · refine ge_sub [0] rfl ?_
    exact hj27 m1
  · refine ge_iload_n 2 DX10_walk_7 rfl ?_
    refine ge_iconst (v := (0 : Int32)) DX10_walk_8 rfl ?_
    refine ge_sipush (v := (200 : Int32)) DX10_walk_9 rfl ?_
    refine ge_callSi0 (st := []) cm_X10_99 DX10_walk_12 (okX10_within (kl K) X m1 a2 (0 : Int32) (200 : Int32)) rfl rfl (Nat.le_of_ble_eq_true rfl) (by decide) ⟨rfl, rfl⟩ ⟨Nat.zero_le _, Nat.zero_le _⟩ (fun r7 m6 => ?_)
    refine ge_if_eq (tgt := 27) DX10_walk_15 (by decide) ?_ ?_
    · refine ge_sub [0] rfl ?_
      exact hj27 m6
    · refine ge_iload_n 3 DX10_walk_18 rfl ?_
      refine ge_iconst (v := (0 : Int32)) DX10_walk_19 rfl ?_
      refine ge_iconst (v := (4 : Int32)) DX10_walk_20 rfl ?_
      refine ge_callSi0 (st := []) cm_X10_99 DX10_walk_21 (okX10_within (kl K) X m6 a3 (0 : Int32) (4 : Int32)) rfl rfl (Nat.le_of_ble_eq_true rfl) (by decide) ⟨rfl, rfl⟩ ⟨Nat.zero_le _, Nat.zero_le _⟩ (fun r9 m8 => ?_)
      refine ge_if_ne (tgt := 35) DX10_walk_24 (by decide) ?_ ?_
      · refine ge_sub [0] rfl ?_
        exact hj27 m8
      · refine ge_aload_n 0 DX10_walk_35 rfl ?_
        refine ge_getR (i := 296) DX10_walk_36 fl_X10_95 is_0 (by decide) rfl ?_
        refine ge_iload_n 1 DX10_walk_39 rfl ?_
        refine ge_callVv0 (st := []) cm_X10_291 DX10_walk_40 is_296 rfl (okX9_startAt (kl K) X m8 a1) rfl rfl (Nat.le_of_ble_eq_true rfl) (by decide) ⟨rfl, rfl⟩ ⟨Nat.zero_le _, Nat.zero_le _⟩ (fun m10 => ?_)
        refine ge_iconst (v := (1 : Int32)) DX10_walk_43 rfl ?_
        refine ge_istore (ls' := [(4, .int (1 : Int32)), (0, .ref (xad X 0)), (1, .int a1), (2, .int a2), (3, .int a3)]) DX10_walk_44 (by decide) rfl ?_
        refine ge_iconst (v := (0 : Int32)) DX10_walk_46 rfl ?_
        refine ge_istore (ls' := [(5, .int (0 : Int32)), (4, .int (1 : Int32)), (0, .ref (xad X 0)), (1, .int a1), (2, .int a2), (3, .int a3)]) DX10_walk_47 (by decide) rfl ?_
        refine ge_sub [2, 4, 5, 1, 0] rfl ?_
        refine lX10_walk_L49 K X a2 a3 (fun m17 => ?_) 5000 m10 (1 : Int32) (0 : Int32)
        · refine ge_iload_n 1 DX10_walk_75 rfl ?_
          refine ge_ite (fun hx18 => ?_) (fun hx18 => ?_)
          · refine ge_tsw (v := (0 : Int32)) (tgt := 108) DX10_walk_76 hx18 (by decide) (by decide) rfl (by decide) ?_
            refine ge_aload_n 0 DX10_walk_108 rfl ?_
            refine ge_getR (i := 296) DX10_walk_109 fl_X10_95 is_0 (by decide) rfl ?_
            refine ge_getI DX10_walk_112 fl_X10_298 is_296 (by decide) rfl ?_
            exact ge_iret rfl DX10_walk_115
          refine ge_ite (fun hx19 => ?_) (fun hx19 => ?_)
          · refine ge_tsw (v := (1 : Int32)) (tgt := 116) DX10_walk_76 hx19 (by decide) (by decide) rfl (by decide) ?_
            refine ge_aload_n 0 DX10_walk_116 rfl ?_
            refine ge_getR (i := 296) DX10_walk_117 fl_X10_95 is_0 (by decide) rfl ?_
            refine ge_getI DX10_walk_120 fl_X10_301 is_296 (by decide) rfl ?_
            exact ge_iret rfl DX10_walk_123
          refine ge_ite (fun hx20 => ?_) (fun hx20 => ?_)
          · refine ge_tsw (v := (2 : Int32)) (tgt := 124) DX10_walk_76 hx20 (by decide) (by decide) rfl (by decide) ?_
            refine ge_aload_n 0 DX10_walk_124 rfl ?_
            refine ge_getR (i := 296) DX10_walk_125 fl_X10_95 is_0 (by decide) rfl ?_
            refine ge_getI DX10_walk_128 fl_X10_304 is_296 (by decide) rfl ?_
            exact ge_iret rfl DX10_walk_131
          refine ge_ite (fun hx21 => ?_) (fun hx21 => ?_)
          · refine ge_tsw (v := (3 : Int32)) (tgt := 132) DX10_walk_76 hx21 (by decide) (by decide) rfl (by decide) ?_
            refine ge_aload_n 0 DX10_walk_132 rfl ?_
            refine ge_getR (i := 296) DX10_walk_133 fl_X10_95 is_0 (by decide) rfl ?_
            refine ge_getI DX10_walk_136 fl_X10_307 is_296 (by decide) rfl ?_
            exact ge_iret rfl DX10_walk_139
          refine ge_tswd (tgt := 140) DX10_walk_76 (sw_out 0 4 rfl (by decide) (fun i hi => by rcases i with _ | _ | _ | _ | i <;> first | exact absurd hi (by omega) | assumption)) (by decide) ?_
          refine ge_aload_n 0 DX10_walk_140 rfl ?_
          refine ge_getR (i := 296) DX10_walk_141 fl_X10_95 is_0 (by decide) rfl ?_
          refine ge_getI DX10_walk_144 fl_X10_310 is_296 (by decide) rfl ?_
          exact ge_iret rfl DX10_walk_147
abbrev gX10_halts (K : Kt) (X : Xt) := GE (R := Int32) K rmX10_halts X cX10_halts 3 RX10 (some .int) (finM K X ιI 0 0)
set_option maxHeartbeats 4000000 in
set_option maxRecDepth 100000 in
theorem lX10_halts_L25 (K : Kt) (X : Xt) {k42 : Mem → Int32 → Option (Int32 × Mem)} {k50 : Mem → Option (Int32 × Mem)}   (hk42 : ∀ (m8 : Mem) (x9 : Int32), gX10_halts K X 0 0 42 [(2, .int x9)] [] m8 (k42 m8 x9)) (hk50 : ∀ (m12 : Mem), gX10_halts K X 0 0 50 [] [] m12 (k50 m12)) :
    ∀ (n : Nat) (m6 : Mem) (x7 : Int32), gX10_halts K X 0 0 25 [(0, .ref (xad X 0)), (2, .int x7)] [] m6 (fX10_halts_L25 k42 k50  n m6 x7) := by
  intro n
  induction n with
  | zero => intro m6 x7; exact ge_none
  | succ n ih =>
    intro m6 x7
    show gX10_halts K X 0 0 25 [(0, .ref (xad X 0)), (2, .int x7)] [] m6 (fX10_halts_L25_b k42 k50  (fX10_halts_L25 k42 k50  n) m6 x7)
    delta fX10_halts_L25_b
    refine ge_iload_n 1 DX10_halts_25 rfl ?_
    refine ge_sipush (v := (200 : Int32)) DX10_halts_26 rfl ?_
    refine ge_icmp_gt (tgt := 50) DX10_halts_29 (by decide) ?_ ?_
    · refine ge_sub [] rfl ?_
      exact hk50 m6
    · refine ge_aload_n 0 DX10_halts_32 rfl ?_
      refine ge_getR (i := 296) DX10_halts_33 fl_X10_95 is_0 (by decide) rfl ?_
      refine ge_callVi0 (st := []) cm_X10_294 DX10_halts_36 is_296 rfl (okX9_stepOn (kl K) X m6) rfl rfl (Nat.le_of_ble_eq_true rfl) (by decide) ⟨rfl, rfl⟩ ⟨Nat.zero_le _, Nat.zero_le _⟩ (fun r15 m14 => ?_)
      refine ge_if_ne (tgt := 44) DX10_halts_39 (by decide) ?_ ?_
      · refine ge_sub [1] rfl ?_
        exact hk42 m14 x7
      · refine ge_iinc 1 (v := (x7 + (1 : Int32))) (ls' := [(2, .int (x7 + (1 : Int32))), (0, .ref (xad X 0))]) DX10_halts_44 rfl rfl (by decide) rfl ?_
        refine ge_goto (tgt := 25) DX10_halts_47 (by decide) ?_
        refine ge_sub [1, 0] rfl ?_
        exact ih m14 (x7 + (1 : Int32))
set_option maxHeartbeats 4000000 in
set_option maxRecDepth 100000 in
theorem okX10_halts (l : Launch) (X : Xt) (m0 : Mem) (a1 : Int32) : Ct l yX10_halts cX10_halts 3 (some .int) rmX10_halts ιI X [.ref (xad X 0), .int a1] m0 (fX10_halts m0 a1) := by
  refine ct_of (own := RX10) (ls := [(0, .ref (xad X 0)), (1, .int a1)]) (by decide) rfl rfl (Nat.le_of_ble_eq_true rfl) (fun K => ?_)
  show gX10_halts K X 0 0 0 [(0, .ref (xad X 0)), (1, .int a1)] [] m0 (fX10_halts m0 a1)
  delta fX10_halts
  refine ge_iload_n 1 DX10_halts_0 rfl ?_
  refine ge_callSi0 (st := []) cm_X10_279 DX10_halts_1 (okX10_isCell (kl K) X m0 a1) rfl rfl (Nat.le_of_ble_eq_true rfl) (by decide) ⟨rfl, rfl⟩ ⟨Nat.zero_le _, Nat.zero_le _⟩ (fun r2 m1 => ?_)
  refine ge_if_ne (tgt := 15) DX10_halts_4 (by decide) ?_ ?_
  · refine ge_aload_n 0 DX10_halts_7 rfl ?_
    refine ge_sipush (v := (-1001 : Int32)) DX10_halts_8 rfl ?_
    refine ge_callVi0 (st := []) cm_X10_103 DX10_halts_11 is_0 rfl (okX10_refuse (kl K) X m1 (-1001 : Int32)) rfl rfl (Nat.le_of_ble_eq_true rfl) (by decide) ⟨rfl, rfl⟩ ⟨Nat.zero_le _, Nat.zero_le _⟩ (fun r4 m3 => ?_)
    exact ge_iret rfl DX10_halts_14
  · refine ge_aload_n 0 DX10_halts_15 rfl ?_
    refine ge_getR (i := 296) DX10_halts_16 fl_X10_95 is_0 (by decide) rfl ?_
    refine ge_iload_n 1 DX10_halts_19 rfl ?_
    refine ge_callVv0 (st := []) cm_X10_291 DX10_halts_20 is_296 rfl (okX9_startAt (kl K) X m1 a1) rfl rfl (Nat.le_of_ble_eq_true rfl) (by decide) ⟨rfl, rfl⟩ ⟨Nat.zero_le _, Nat.zero_le _⟩ (fun m5 => ?_)
    refine ge_iconst (v := (0 : Int32)) DX10_halts_23 rfl ?_
    refine ge_istore_n (ls' := [(2, .int (0 : Int32)), (0, .ref (xad X 0)), (1, .int a1)]) DX10_halts_24 (by decide) rfl ?_
    refine ge_sub [1, 0] rfl ?_
    refine lX10_halts_L25 K X  (fun m10 x11 => ?_) (fun m13 => ?_) 5000 m5 (0 : Int32)
    · refine ge_iload_n 0 DX10_halts_42 rfl ?_
      exact ge_iret rfl DX10_halts_43
    · refine ge_iconst (v := (-1 : Int32)) DX10_halts_50 rfl ?_
      exact ge_iret rfl DX10_halts_51
abbrev gX10_run (K : Kt) (X : Xt) := GE (R := Int32) K rmX10_run X cX10_run 5 RX10 (some .int) (finM K X ιI 0 0)
set_option maxHeartbeats 4000000 in
set_option maxRecDepth 100000 in
theorem lX10_run_L40 (K : Kt) (X : Xt) {k72 : Mem → Option (Int32 × Mem)} {k90 : Mem → Option (Int32 × Mem)} (y11 : Int32)  (hk72 : ∀ (m13 : Mem), gX10_run K X 0 0 72 [(0, .ref (xad X 0))] [] m13 (k72 m13)) (hk90 : ∀ (m15 : Mem), gX10_run K X 0 0 90 [(0, .ref (xad X 0))] [] m15 (k90 m15)) :
    ∀ (n : Nat) (m10 : Mem) (x12 : Int32), gX10_run K X 0 0 40 [(0, .ref (xad X 0)), (2, .int y11), (3, .int x12)] [] m10 (fX10_run_L40 k72 k90 y11 n m10 x12) := by
  intro n
  induction n with
  | zero => intro m10 x12; exact ge_none
  | succ n ih =>
    intro m10 x12
    show gX10_run K X 0 0 40 [(0, .ref (xad X 0)), (2, .int y11), (3, .int x12)] [] m10 (fX10_run_L40_b k72 k90 y11 (fX10_run_L40 k72 k90 y11 n) m10 x12)
    delta fX10_run_L40_b
    refine ge_iload_n 2 DX10_run_40 rfl ?_
    refine ge_iload_n 1 DX10_run_41 rfl ?_
    refine ge_icmp_ge (tgt := 90) DX10_run_42 (by decide) ?_ ?_
    · refine ge_aload_n 0 DX10_run_45 rfl ?_
      refine ge_getR (i := 283) DX10_run_46 fl_X10_62 is_0 (by decide) rfl ?_
      refine ge_getR (i := 284) DX10_run_49 fl_X10_282 is_283 (by decide) rfl ?_
      refine ge_aload_n 0 DX10_run_52 rfl ?_
      refine ge_getR (i := 296) DX10_run_53 fl_X10_95 is_0 (by decide) rfl ?_
      refine ge_getI DX10_run_56 fl_X10_298 is_296 (by decide) rfl ?_
      refine ge_iald DX10_run_59 is_284 al_284 ?_
      refine ge_topi (fun x17 => ?_)
      refine ge_istore (ls' := [(4, .int x17), (0, .ref (xad X 0)), (2, .int y11), (3, .int x12)]) DX10_run_60 (by decide) rfl ?_
      refine ge_aload_n 1 DX10_run_62 rfl ?_
      refine ge_getR (i := 296) DX10_run_63 fl_X10_95 is_0 (by decide) rfl ?_
      refine ge_callVi0 (st := []) cm_X10_294 DX10_run_66 is_296 rfl (okX9_stepOn (kl K) X m10) rfl rfl (Nat.le_of_ble_eq_true rfl) (by decide) ⟨rfl, rfl⟩ ⟨Nat.zero_le _, Nat.zero_le _⟩ (fun r19 m18 => ?_)
      refine ge_if_ne (tgt := 75) DX10_run_69 (by decide) ?_ ?_
      · refine ge_sub [1] rfl ?_
        exact hk72 m18
      · refine ge_aload_n 1 DX10_run_75 rfl ?_
        refine ge_getR (i := 283) DX10_run_76 fl_X10_62 is_0 (by decide) rfl ?_
        refine ge_iload 0 DX10_run_79 rfl ?_
        refine ge_callVv0 (st := []) cm_X10_313 DX10_run_81 is_283 rfl (okX1_meet (kl K) X 283 is_283 m18 x17) rfl rfl (Nat.le_of_ble_eq_true rfl) (by decide) ⟨rfl, rfl⟩ ⟨Nat.zero_le _, Nat.zero_le _⟩ (fun m20 => ?_)
        refine ge_iinc 3 (v := (x12 + (1 : Int32))) (ls' := [(3, .int (x12 + (1 : Int32))), (4, .int x17), (0, .ref (xad X 0)), (2, .int y11)]) DX10_run_84 rfl rfl (by decide) rfl ?_
        refine ge_goto (tgt := 40) DX10_run_87 (by decide) ?_
        refine ge_sub [2, 3, 0] rfl ?_
        exact ih m20 (x12 + (1 : Int32))
    · refine ge_sub [0] rfl ?_
      exact hk90 m10
set_option maxHeartbeats 4000000 in
set_option maxRecDepth 100000 in
theorem okX10_run (l : Launch) (X : Xt) (m0 : Mem) (a1 : Int32) (a2 : Int32) : Ct l yX10_run cX10_run 5 (some .int) rmX10_run ιI X [.ref (xad X 0), .int a1, .int a2] m0 (fX10_run m0 a1 a2) := by
  refine ct_of (own := RX10) (ls := [(0, .ref (xad X 0)), (1, .int a1), (2, .int a2)]) (by decide) rfl rfl (Nat.le_of_ble_eq_true rfl) (fun K => ?_)
  show gX10_run K X 0 0 0 [(0, .ref (xad X 0)), (1, .int a1), (2, .int a2)] [] m0 (fX10_run m0 a1 a2)
  delta fX10_run
  refine ge_iload_n 1 DX10_run_0 rfl ?_
  refine ge_callSi0 (st := []) cm_X10_279 DX10_run_1 (okX10_isCell (kl K) X m0 a1) rfl rfl (Nat.le_of_ble_eq_true rfl) (by decide) ⟨rfl, rfl⟩ ⟨Nat.zero_le _, Nat.zero_le _⟩ (fun r2 m1 => ?_)
  refine ge_jn (P := fun k => ∀ (m3 : Mem), gX10_run K X 0 0 18 [(0, .ref (xad X 0))] [] m3 (k m3)) (fun m3 => ?_) (fun j18 hj18 => ?_)
  · refine ge_aload_n 0 DX10_run_18 rfl ?_
    refine ge_sipush (v := (-1001 : Int32)) DX10_run_19 rfl ?_
    refine ge_callVi0 (st := []) cm_X10_103 DX10_run_22 is_0 rfl (okX10_refuse (kl K) X m3 (-1001 : Int32)) rfl rfl (Nat.le_of_ble_eq_true rfl) (by decide) ⟨rfl, rfl⟩ ⟨Nat.zero_le _, Nat.zero_le _⟩ (fun r5 m4 => ?_)
    exact ge_iret rfl DX10_run_25
  refine ge_if_eq (tgt := 18) DX10_run_4 (by decide) ?_ ?_
  · refine ge_sub [0] rfl ?_
    exact hj18 m1
  · refine ge_iload_n 2 DX10_run_7 rfl ?_
    refine ge_iconst (v := (1 : Int32)) DX10_run_8 rfl ?_
    refine ge_sipush (v := (200 : Int32)) DX10_run_9 rfl ?_
    refine ge_callSi0 (st := []) cm_X10_99 DX10_run_12 (okX10_within (kl K) X m1 a2 (1 : Int32) (200 : Int32)) rfl rfl (Nat.le_of_ble_eq_true rfl) (by decide) ⟨rfl, rfl⟩ ⟨Nat.zero_le _, Nat.zero_le _⟩ (fun r7 m6 => ?_)
    refine ge_if_ne (tgt := 26) DX10_run_15 (by decide) ?_ ?_
    · refine ge_sub [0] rfl ?_
      exact hj18 m6
    · refine ge_aload_n 0 DX10_run_26 rfl ?_
      refine ge_callVv0 (st := []) cm_X10_256 DX10_run_27 is_0 rfl (okX10_remember (kl K) X m6) rfl rfl (Nat.le_of_ble_eq_true rfl) (by decide) ⟨rfl, rfl⟩ ⟨Nat.zero_le _, Nat.zero_le _⟩ (fun m8 => ?_)
      refine ge_aload_n 0 DX10_run_30 rfl ?_
      refine ge_getR (i := 296) DX10_run_31 fl_X10_95 is_0 (by decide) rfl ?_
      refine ge_iload_n 1 DX10_run_34 rfl ?_
      refine ge_callVv0 (st := []) cm_X10_291 DX10_run_35 is_296 rfl (okX9_startAt (kl K) X m8 a1) rfl rfl (Nat.le_of_ble_eq_true rfl) (by decide) ⟨rfl, rfl⟩ ⟨Nat.zero_le _, Nat.zero_le _⟩ (fun m9 => ?_)
      refine ge_iconst (v := (0 : Int32)) DX10_run_38 rfl ?_
      refine ge_istore_n (ls' := [(3, .int (0 : Int32)), (0, .ref (xad X 0)), (1, .int a1), (2, .int a2)]) DX10_run_39 (by decide) rfl ?_
      refine ge_sub [1, 3, 0] rfl ?_
      refine lX10_run_L40 K X a2 (fun m14 => ?_) (fun m16 => ?_) 5000 m9 (0 : Int32)
      · refine ge_goto (tgt := 90) DX10_run_72 (by decide) ?_
        refine ge_aload_n 0 DX10_run_90 rfl ?_
        refine ge_getR (i := 283) DX10_run_91 fl_X10_62 is_0 (by decide) rfl ?_
        refine ge_getI DX10_run_94 fl_X10_316 is_283 (by decide) rfl ?_
        exact ge_iret rfl DX10_run_97
      · refine ge_aload_n 0 DX10_run_90 rfl ?_
        refine ge_getR (i := 283) DX10_run_91 fl_X10_62 is_0 (by decide) rfl ?_
        refine ge_getI DX10_run_94 fl_X10_316 is_283 (by decide) rfl ?_
        exact ge_iret rfl DX10_run_97
abbrev gX10_met (K : Kt) (X : Xt) := GE (R := Int32) K rmX10_met X cX10_met 2 RX10 (some .int) (finM K X ιI 0 0)
set_option maxHeartbeats 4000000 in
set_option maxRecDepth 100000 in
theorem okX10_met (l : Launch) (X : Xt) (m0 : Mem) (a1 : Int32) : Ct l yX10_met cX10_met 2 (some .int) rmX10_met ιI X [.ref (xad X 0), .int a1] m0 (fX10_met m0 a1) := by
  refine ct_of (own := RX10) (ls := [(0, .ref (xad X 0)), (1, .int a1)]) (by decide) rfl rfl (Nat.le_of_ble_eq_true rfl) (fun K => ?_)
  show gX10_met K X 0 0 0 [(0, .ref (xad X 0)), (1, .int a1)] [] m0 (fX10_met m0 a1)
  delta fX10_met
  refine ge_iload_n 1 DX10_met_0 rfl ?_
  refine ge_callSi0 (st := []) cm_X10_165 DX10_met_1 (okX10_isWord (kl K) X m0 a1) rfl rfl (Nat.le_of_ble_eq_true rfl) (by decide) ⟨rfl, rfl⟩ ⟨Nat.zero_le _, Nat.zero_le _⟩ (fun r2 m1 => ?_)
  refine ge_if_ne (tgt := 15) DX10_met_4 (by decide) ?_ ?_
  · refine ge_aload_n 0 DX10_met_7 rfl ?_
    refine ge_sipush (v := (-1001 : Int32)) DX10_met_8 rfl ?_
    refine ge_callVi0 (st := []) cm_X10_103 DX10_met_11 is_0 rfl (okX10_refuse (kl K) X m1 (-1001 : Int32)) rfl rfl (Nat.le_of_ble_eq_true rfl) (by decide) ⟨rfl, rfl⟩ ⟨Nat.zero_le _, Nat.zero_le _⟩ (fun r4 m3 => ?_)
    exact ge_iret rfl DX10_met_14
  · refine ge_aload_n 0 DX10_met_15 rfl ?_
    refine ge_getR (i := 283) DX10_met_16 fl_X10_62 is_0 (by decide) rfl ?_
    refine ge_iload_n 1 DX10_met_19 rfl ?_
    refine ge_callVi0 (st := []) cm_X10_319 DX10_met_20 is_283 rfl (okX1_hasMet (kl K) X 283 is_283 m1 a1) rfl rfl (Nat.le_of_ble_eq_true rfl) (by decide) ⟨rfl, rfl⟩ ⟨Nat.zero_le _, Nat.zero_le _⟩ (fun r6 m5 => ?_)
    refine ge_if_eq (tgt := 30) DX10_met_23 (by decide) ?_ ?_
    · refine ge_iconst (v := (0 : Int32)) DX10_met_30 rfl ?_
      exact ge_iret rfl DX10_met_31
    · refine ge_iconst (v := (1 : Int32)) DX10_met_26 rfl ?_
      refine ge_goto (tgt := 31) DX10_met_27 (by decide) ?_
      exact ge_iret rfl DX10_met_31
abbrev gX10_order (K : Kt) (X : Xt) := GE (R := Int32) K rmX10_order X cX10_order 2 RX10 (some .int) (finM K X ιI 0 0)
set_option maxHeartbeats 4000000 in
set_option maxRecDepth 100000 in
theorem okX10_order (l : Launch) (X : Xt) (m0 : Mem) (a1 : Int32) : Ct l yX10_order cX10_order 2 (some .int) rmX10_order ιI X [.ref (xad X 0), .int a1] m0 (fX10_order m0 a1) := by
  refine ct_of (own := RX10) (ls := [(0, .ref (xad X 0)), (1, .int a1)]) (by decide) rfl rfl (Nat.le_of_ble_eq_true rfl) (fun K => ?_)
  show gX10_order K X 0 0 0 [(0, .ref (xad X 0)), (1, .int a1)] [] m0 (fX10_order m0 a1)
  delta fX10_order
  refine ge_iload_n 1 DX10_order_0 rfl ?_
  refine ge_if_lt (tgt := 27) DX10_order_1 (by decide) ?_ ?_
  · refine ge_iconst (v := (-1 : Int32)) DX10_order_27 rfl ?_
    exact ge_iret rfl DX10_order_28
  · refine ge_iload_n 1 DX10_order_4 rfl ?_
    refine ge_aload_n 0 DX10_order_5 rfl ?_
    refine ge_getR (i := 283) DX10_order_6 fl_X10_62 is_0 (by decide) rfl ?_
    refine ge_getI DX10_order_9 fl_X10_316 is_283 (by decide) rfl ?_
    refine ge_icmp_ge (tgt := 27) DX10_order_12 (by decide) ?_ ?_
    · refine ge_aload_n 0 DX10_order_15 rfl ?_
      refine ge_getR (i := 283) DX10_order_16 fl_X10_62 is_0 (by decide) rfl ?_
      refine ge_getR (i := 286) DX10_order_19 fl_X10_322 is_283 (by decide) rfl ?_
      refine ge_iload_n 1 DX10_order_22 rfl ?_
      refine ge_iald DX10_order_23 is_286 al_286 ?_
      refine ge_goto (tgt := 28) DX10_order_24 (by decide) ?_
      exact ge_iret rfl DX10_order_28
    · refine ge_iconst (v := (-1 : Int32)) DX10_order_27 rfl ?_
      exact ge_iret rfl DX10_order_28
abbrev gX10_costs (K : Kt) (X : Xt) := GE (R := Int32) K rmX10_costs X cX10_costs 3 RX10 (some .int) (finM K X ιI 0 0)
set_option maxHeartbeats 4000000 in
set_option maxRecDepth 100000 in
theorem okX10_costs (l : Launch) (X : Xt) (m0 : Mem) (a1 : Int32) : Ct l yX10_costs cX10_costs 3 (some .int) rmX10_costs ιI X [.ref (xad X 0), .int a1] m0 (fX10_costs m0 a1) := by
  refine ct_of (own := RX10) (ls := [(0, .ref (xad X 0)), (1, .int a1)]) (by decide) rfl rfl (Nat.le_of_ble_eq_true rfl) (fun K => ?_)
  show gX10_costs K X 0 0 0 [(0, .ref (xad X 0)), (1, .int a1)] [] m0 (fX10_costs m0 a1)
  delta fX10_costs
  refine ge_iload_n 1 DX10_costs_0 rfl ?_
  refine ge_callSi0 (st := []) cm_X10_165 DX10_costs_1 (okX10_isWord (kl K) X m0 a1) rfl rfl (Nat.le_of_ble_eq_true rfl) (by decide) ⟨rfl, rfl⟩ ⟨Nat.zero_le _, Nat.zero_le _⟩ (fun r2 m1 => ?_)
  refine ge_if_ne (tgt := 15) DX10_costs_4 (by decide) ?_ ?_
  · refine ge_aload_n 0 DX10_costs_7 rfl ?_
    refine ge_sipush (v := (-1001 : Int32)) DX10_costs_8 rfl ?_
    refine ge_callVi0 (st := []) cm_X10_103 DX10_costs_11 is_0 rfl (okX10_refuse (kl K) X m1 (-1001 : Int32)) rfl rfl (Nat.le_of_ble_eq_true rfl) (by decide) ⟨rfl, rfl⟩ ⟨Nat.zero_le _, Nat.zero_le _⟩ (fun r4 m3 => ?_)
    exact ge_iret rfl DX10_costs_14
  · refine ge_aload_n 0 DX10_costs_15 rfl ?_
    refine ge_getR (i := 275) DX10_costs_16 fl_X10_55 is_0 (by decide) rfl ?_
    refine ge_iload_n 1 DX10_costs_19 rfl ?_
    refine ge_callVi0 (st := []) cm_X10_168 DX10_costs_20 is_275 rfl (okX6_meaningOf (kl K) X m1 a1) rfl rfl (Nat.le_of_ble_eq_true rfl) (by decide) ⟨rfl, rfl⟩ ⟨Nat.zero_le _, Nat.zero_le _⟩ (fun r6 m5 => ?_)
    refine ge_istore_n (ls' := [(2, .int r6), (0, .ref (xad X 0)), (1, .int a1)]) DX10_costs_23 (by decide) rfl ?_
    refine ge_aload_n 1 DX10_costs_24 rfl ?_
    refine ge_getR (i := 9) DX10_costs_25 fl_X10_51 is_0 (by decide) rfl ?_
    refine ge_iload_n 0 DX10_costs_28 rfl ?_
    refine ge_callVi0 (st := []) cm_X10_123 DX10_costs_29 is_9 rfl (okX4_has (kl K) X m5 r6) rfl rfl (Nat.le_of_ble_eq_true rfl) (by decide) ⟨rfl, rfl⟩ ⟨Nat.zero_le _, Nat.zero_le _⟩ (fun r8 m7 => ?_)
    refine ge_if_eq (tgt := 51) DX10_costs_32 (by decide) ?_ ?_
    · refine ge_iconst (v := (0 : Int32)) DX10_costs_51 rfl ?_
      exact ge_iret rfl DX10_costs_52
    · refine ge_aload_n 1 DX10_costs_35 rfl ?_
      refine ge_getR (i := 9) DX10_costs_36 fl_X10_51 is_0 (by decide) rfl ?_
      refine ge_getR (i := 10) DX10_costs_39 fl_X10_127 is_9 (by decide) rfl ?_
      refine ge_iload_n 0 DX10_costs_42 rfl ?_
      refine ge_aaldF DX10_costs_43 (fun hb9 => ?_)
      refine ge_iload_n 2 DX10_costs_44 rfl ?_
      refine ge_callVi0 (st := []) cm_X10_325 DX10_costs_45 (isF hb9) rfl (okX3_costOf (kl K) X (11 + 22 * ix r6) (isF hb9) m7 a1) rfl rfl (Nat.le_of_ble_eq_true rfl) (by decide) ⟨rfl, rfl⟩ ⟨Nat.zero_le _, Nat.zero_le _⟩ (fun r11 m10 => ?_)
      refine ge_goto (tgt := 52) DX10_costs_48 (by decide) ?_
      exact ge_iret rfl DX10_costs_52
abbrev gX10_undo (K : Kt) (X : Xt) := GE (R := Int32) K rmX10_undo X cX10_undo 1 RX10 (some .int) (finM K X ιI 0 0)
set_option maxHeartbeats 4000000 in
set_option maxRecDepth 100000 in
theorem okX10_undo (l : Launch) (X : Xt) (m0 : Mem) : Ct l yX10_undo cX10_undo 1 (some .int) rmX10_undo ιI X [.ref (xad X 0)] m0 (fX10_undo m0) := by
  refine ct_of (own := RX10) (ls := [(0, .ref (xad X 0))]) (by decide) rfl rfl (Nat.le_of_ble_eq_true rfl) (fun K => ?_)
  show gX10_undo K X 0 0 0 [(0, .ref (xad X 0))] [] m0 (fX10_undo m0)
  delta fX10_undo
  refine ge_aload_n 0 DX10_undo_0 rfl ?_
  refine ge_getI DX10_undo_1 fl_X10_36 is_0 (by decide) rfl ?_
  refine ge_if_ne (tgt := 15) DX10_undo_4 (by decide) ?_ ?_
  · refine ge_aload_n 0 DX10_undo_7 rfl ?_
    refine ge_sipush (v := (-1003 : Int32)) DX10_undo_8 rfl ?_
    refine ge_callVi0 (st := []) cm_X10_103 DX10_undo_11 is_0 rfl (okX10_refuse (kl K) X m0 (-1003 : Int32)) rfl rfl (Nat.le_of_ble_eq_true rfl) (by decide) ⟨rfl, rfl⟩ ⟨Nat.zero_le _, Nat.zero_le _⟩ (fun r2 m1 => ?_)
    exact ge_iret rfl DX10_undo_14
  · refine ge_aload_n 0 DX10_undo_15 rfl ?_
    refine ge_dup DX10_undo_16 rfl ?_
    refine ge_getI DX10_undo_17 fl_X10_36 is_0 (by decide) rfl ?_
    refine ge_iconst (v := (1 : Int32)) DX10_undo_20 rfl ?_
    refine ge_isub DX10_undo_21 ?_
    refine ge_put DX10_undo_22 fp_X10_36 is_0 (by decide) rfl (fun m3 => ?_)
    refine ge_aload_n 0 DX10_undo_25 rfl ?_
    refine ge_getR (i := 283) DX10_undo_26 fl_X10_62 is_0 (by decide) rfl ?_
    refine ge_aload_n 0 DX10_undo_29 rfl ?_
    refine ge_getR (i := 7) DX10_undo_30 fl_X10_29 is_0 (by decide) rfl ?_
    refine ge_aload_n 0 DX10_undo_33 rfl ?_
    refine ge_getI DX10_undo_34 fl_X10_33 is_0 (by decide) rfl ?_
    refine ge_aload_n 0 DX10_undo_37 rfl ?_
    refine ge_getI DX10_undo_38 fl_X10_36 is_0 (by decide) rfl ?_
    refine ge_iadd DX10_undo_41 ?_
    refine ge_bipush (v := (16 : Int32)) DX10_undo_42 rfl ?_
    refine ge_iremc DX10_undo_44 rfl ?_
    refine ge_aaldP DX10_undo_45 (fun hb4 => ?_)
    refine ge_callVv0 (st := []) cm_X10_328 DX10_undo_46 is_283 rfl (okX1_become (kl K) X 283 is_283 m3 (298 + 4 * ix (((m3 0 12) + (m3 0 13)) % (16 : Int32))) (isP hb4)) rfl rfl (Nat.le_of_ble_eq_true rfl) (by decide) ⟨rfl, rfl⟩ ⟨Nat.zero_le _, Nat.zero_le _⟩ (fun m5 => ?_)
    refine ge_aload_n 0 DX10_undo_49 rfl ?_
    refine ge_getI DX10_undo_50 fl_X10_36 is_0 (by decide) rfl ?_
    exact ge_iret rfl DX10_undo_53
