abbrev gX10_image (K : Kt) (X : Xt) := GE (R := Int32) K rmX10_image X cX10_image 1 RX10 (some .int) (finM K X ιI 0 0)
set_option maxHeartbeats 4000000 in
set_option maxRecDepth 100000 in
theorem okX10_image (l : Launch) (X : Xt) (m0 : Mem) : Ct l yX10_image cX10_image 1 (some .int) rmX10_image ιI X [.ref (xad X 0)] m0 (fX10_image m0) := by
  refine ct_of (own := RX10) (ls := [(0, .ref (xad X 0))]) (by decide) rfl rfl (Nat.le_of_ble_eq_true rfl) (fun K => ?_)
  show gX10_image K X 0 0 0 [(0, .ref (xad X 0))] [] m0 (fX10_image m0)
  delta fX10_image
  refine ge_aload_n 0 DX10_image_0 rfl ?_
  refine ge_getR (i := 3) DX10_image_1 fl_X10_21 is_0 (by decide) rfl ?_
  refine ge_aload_n 0 DX10_image_4 rfl ?_
  refine ge_getR (i := 283) DX10_image_5 fl_X10_62 is_0 (by decide) rfl ?_
  refine ge_callVv0 (st := []) cm_X10_328 DX10_image_8 is_3 rfl (okX1_become (kl K) X 3 is_3 m0 283 is_283) rfl rfl (Nat.le_of_ble_eq_true rfl) (by decide) ⟨rfl, rfl⟩ ⟨Nat.zero_le _, Nat.zero_le _⟩ (fun m1 => ?_)
  refine ge_aload_n 0 DX10_image_11 rfl ?_
  refine ge_aload_n 0 DX10_image_12 rfl ?_
  refine ge_getR (i := 9) DX10_image_13 fl_X10_51 is_0 (by decide) rfl ?_
  refine ge_getI DX10_image_16 fl_X10_120 is_9 (by decide) rfl ?_
  refine ge_put DX10_image_19 fp_X10_25 is_0 (by decide) rfl (fun m2 => ?_)
  refine ge_aload_n 0 DX10_image_22 rfl ?_
  refine ge_getI DX10_image_23 fl_X10_25 is_0 (by decide) rfl ?_
  exact ge_iret rfl DX10_image_26
abbrev gX10_back (K : Kt) (X : Xt) := GE (R := Int32) K rmX10_back X cX10_back 1 RX10 (some .int) (finM K X ιI 0 0)
set_option maxHeartbeats 4000000 in
set_option maxRecDepth 100000 in
theorem okX10_back (l : Launch) (X : Xt) (m0 : Mem) : Ct l yX10_back cX10_back 1 (some .int) rmX10_back ιI X [.ref (xad X 0)] m0 (fX10_back m0) := by
  refine ct_of (own := RX10) (ls := [(0, .ref (xad X 0))]) (by decide) rfl rfl (Nat.le_of_ble_eq_true rfl) (fun K => ?_)
  show gX10_back K X 0 0 0 [(0, .ref (xad X 0))] [] m0 (fX10_back m0)
  delta fX10_back
  refine ge_aload_n 0 DX10_back_0 rfl ?_
  refine ge_getI DX10_back_1 fl_X10_25 is_0 (by decide) rfl ?_
  refine ge_iconst (v := (-1 : Int32)) DX10_back_4 rfl ?_
  refine ge_icmp_ne (tgt := 16) DX10_back_5 (by decide) ?_ ?_
  · refine ge_aload_n 0 DX10_back_8 rfl ?_
    refine ge_sipush (v := (-1003 : Int32)) DX10_back_9 rfl ?_
    refine ge_callVi0 (st := []) cm_X10_103 DX10_back_12 is_0 rfl (okX10_refuse (kl K) X m0 (-1003 : Int32)) rfl rfl (Nat.le_of_ble_eq_true rfl) (by decide) ⟨rfl, rfl⟩ ⟨Nat.zero_le _, Nat.zero_le _⟩ (fun r2 m1 => ?_)
    exact ge_iret rfl DX10_back_15
  · refine ge_aload_n 0 DX10_back_16 rfl ?_
    refine ge_getR (i := 283) DX10_back_17 fl_X10_62 is_0 (by decide) rfl ?_
    refine ge_aload_n 0 DX10_back_20 rfl ?_
    refine ge_getR (i := 3) DX10_back_21 fl_X10_21 is_0 (by decide) rfl ?_
    refine ge_callVv0 (st := []) cm_X10_328 DX10_back_24 is_283 rfl (okX1_become (kl K) X 283 is_283 m0 3 is_3) rfl rfl (Nat.le_of_ble_eq_true rfl) (by decide) ⟨rfl, rfl⟩ ⟨Nat.zero_le _, Nat.zero_le _⟩ (fun m3 => ?_)
    refine ge_aload_n 0 DX10_back_27 rfl ?_
    refine ge_getR (i := 9) DX10_back_28 fl_X10_51 is_0 (by decide) rfl ?_
    refine ge_aload_n 0 DX10_back_31 rfl ?_
    refine ge_getI DX10_back_32 fl_X10_25 is_0 (by decide) rfl ?_
    refine ge_put DX10_back_35 fp_X10_120 is_9 (by decide) rfl (fun m4 => ?_)
    refine ge_aload_n 0 DX10_back_38 rfl ?_
    refine ge_iconst (v := (0 : Int32)) DX10_back_39 rfl ?_
    refine ge_put DX10_back_40 fp_X10_36 is_0 (by decide) rfl (fun m5 => ?_)
    refine ge_aload_n 0 DX10_back_43 rfl ?_
    refine ge_getR (i := 275) DX10_back_44 fl_X10_55 is_0 (by decide) rfl ?_
    refine ge_callVv0 (st := []) cm_X10_117 DX10_back_47 is_275 rfl (okX6_forget (kl K) X m5) rfl rfl (Nat.le_of_ble_eq_true rfl) (by decide) ⟨rfl, rfl⟩ ⟨Nat.zero_le _, Nat.zero_le _⟩ (fun m6 => ?_)
    refine ge_aload_n 0 DX10_back_50 rfl ?_
    refine ge_getI DX10_back_51 fl_X10_25 is_0 (by decide) rfl ?_
    exact ge_iret rfl DX10_back_54
abbrev gX10_count (K : Kt) (X : Xt) := GE (R := Int32) K rmX10_count X cX10_count 2 RX10 (some .int) (finM K X ιI 0 0)
set_option maxHeartbeats 4000000 in
set_option maxRecDepth 100000 in
theorem okX10_count (l : Launch) (X : Xt) (m0 : Mem) (a1 : Int32) : Ct l yX10_count cX10_count 2 (some .int) rmX10_count ιI X [.ref (xad X 0), .int a1] m0 (fX10_count m0 a1) := by
  refine ct_of (own := RX10) (ls := [(0, .ref (xad X 0)), (1, .int a1)]) (by decide) rfl rfl (Nat.le_of_ble_eq_true rfl) (fun K => ?_)
  show gX10_count K X 0 0 0 [(0, .ref (xad X 0)), (1, .int a1)] [] m0 (fX10_count m0 a1)
  delta fX10_count
  refine ge_iload_n 1 DX10_count_0 rfl ?_
  refine ge_ite (fun hx1 => ?_) (fun hx1 => ?_)
  · refine ge_tsw (v := (0 : Int32)) (tgt := 36) DX10_count_1 hx1 (by decide) (by decide) rfl (by decide) ?_
    refine ge_aload_n 0 DX10_count_36 rfl ?_
    refine ge_getR (i := 9) DX10_count_37 fl_X10_51 is_0 (by decide) rfl ?_
    refine ge_getI DX10_count_40 fl_X10_120 is_9 (by decide) rfl ?_
    exact ge_iret rfl DX10_count_43
  refine ge_ite (fun hx2 => ?_) (fun hx2 => ?_)
  · refine ge_tsw (v := (1 : Int32)) (tgt := 44) DX10_count_1 hx2 (by decide) (by decide) rfl (by decide) ?_
    refine ge_aload_n 0 DX10_count_44 rfl ?_
    refine ge_getR (i := 281) DX10_count_45 fl_X10_59 is_0 (by decide) rfl ?_
    refine ge_getI DX10_count_48 fl_X10_107 is_281 (by decide) rfl ?_
    exact ge_iret rfl DX10_count_51
  refine ge_ite (fun hx3 => ?_) (fun hx3 => ?_)
  · refine ge_tsw (v := (2 : Int32)) (tgt := 52) DX10_count_1 hx3 (by decide) (by decide) rfl (by decide) ?_
    refine ge_aload_n 0 DX10_count_52 rfl ?_
    refine ge_getR (i := 1) DX10_count_53 fl_X10_14 is_0 (by decide) rfl ?_
    refine ge_getI DX10_count_56 fl_X10_107 is_1 (by decide) rfl ?_
    exact ge_iret rfl DX10_count_59
  refine ge_ite (fun hx4 => ?_) (fun hx4 => ?_)
  · refine ge_tsw (v := (3 : Int32)) (tgt := 60) DX10_count_1 hx4 (by decide) (by decide) rfl (by decide) ?_
    refine ge_aload_n 0 DX10_count_60 rfl ?_
    refine ge_getI DX10_count_61 fl_X10_36 is_0 (by decide) rfl ?_
    exact ge_iret rfl DX10_count_64
  refine ge_ite (fun hx5 => ?_) (fun hx5 => ?_)
  · refine ge_tsw (v := (4 : Int32)) (tgt := 65) DX10_count_1 hx5 (by decide) (by decide) rfl (by decide) ?_
    refine ge_aload_n 0 DX10_count_65 rfl ?_
    refine ge_getR (i := 283) DX10_count_66 fl_X10_62 is_0 (by decide) rfl ?_
    refine ge_getI DX10_count_69 fl_X10_316 is_283 (by decide) rfl ?_
    exact ge_iret rfl DX10_count_72
  refine ge_tswd (tgt := 73) DX10_count_1 (sw_out 0 5 rfl (by decide) (fun i hi => by rcases i with _ | _ | _ | _ | _ | i <;> first | exact absurd hi (by omega) | assumption)) (by decide) ?_
  refine ge_aload_n 0 DX10_count_73 rfl ?_
  refine ge_sipush (v := (-1001 : Int32)) DX10_count_74 rfl ?_
  refine ge_callVi0 (st := []) cm_X10_103 DX10_count_77 is_0 rfl (okX10_refuse (kl K) X m0 (-1001 : Int32)) rfl rfl (Nat.le_of_ble_eq_true rfl) (by decide) ⟨rfl, rfl⟩ ⟨Nat.zero_le _, Nat.zero_le _⟩ (fun r7 m6 => ?_)
  exact ge_iret rfl DX10_count_80
abbrev gX10_refused (K : Kt) (X : Xt) := GE (R := Int32) K rmX10_refused X cX10_refused 2 RX10 (some .int) (finM K X ιI 0 0)
set_option maxHeartbeats 4000000 in
set_option maxRecDepth 100000 in
theorem okX10_refused (l : Launch) (X : Xt) (m0 : Mem) (a1 : Int32) : Ct l yX10_refused cX10_refused 2 (some .int) rmX10_refused ιI X [.ref (xad X 0), .int a1] m0 (fX10_refused m0 a1) := by
  refine ct_of (own := RX10) (ls := [(0, .ref (xad X 0)), (1, .int a1)]) (by decide) rfl rfl (Nat.le_of_ble_eq_true rfl) (fun K => ?_)
  show gX10_refused K X 0 0 0 [(0, .ref (xad X 0)), (1, .int a1)] [] m0 (fX10_refused m0 a1)
  delta fX10_refused
  refine ge_iload_n 1 DX10_refused_0 rfl ?_
  refine ge_iconst (v := (0 : Int32)) DX10_refused_1 rfl ?_
  refine ge_iconst (v := (2 : Int32)) DX10_refused_2 rfl ?_
  refine ge_callSi0 (st := []) cm_X10_99 DX10_refused_3 (okX10_within (kl K) X m0 a1 (0 : Int32) (2 : Int32)) rfl rfl (Nat.le_of_ble_eq_true rfl) (by decide) ⟨rfl, rfl⟩ ⟨Nat.zero_le _, Nat.zero_le _⟩ (fun r2 m1 => ?_)
  refine ge_if_eq (tgt := 18) DX10_refused_6 (by decide) ?_ ?_
  · refine ge_aload_n 0 DX10_refused_18 rfl ?_
    refine ge_sipush (v := (-1001 : Int32)) DX10_refused_19 rfl ?_
    refine ge_callVi0 (st := []) cm_X10_103 DX10_refused_22 is_0 rfl (okX10_refuse (kl K) X m1 (-1001 : Int32)) rfl rfl (Nat.le_of_ble_eq_true rfl) (by decide) ⟨rfl, rfl⟩ ⟨Nat.zero_le _, Nat.zero_le _⟩ (fun r4 m3 => ?_)
    exact ge_iret rfl DX10_refused_25
  · refine ge_aload_n 0 DX10_refused_9 rfl ?_
    refine ge_getR (i := 8) DX10_refused_10 fl_X10_39 is_0 (by decide) rfl ?_
    refine ge_iload_n 1 DX10_refused_13 rfl ?_
    refine ge_iald DX10_refused_14 is_8 al_8 ?_
    refine ge_goto (tgt := 25) DX10_refused_15 (by decide) ?_
    exact ge_iret rfl DX10_refused_25
