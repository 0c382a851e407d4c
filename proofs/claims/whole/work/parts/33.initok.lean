abbrev gX0_init (K : Kt) (X : Xt) := GI (R := Unit) K rmX0_init X cX0_init 2 RX0 none (finI K X 1 200)
set_option maxHeartbeats 4000000 in
set_option maxRecDepth 100000 in
theorem okX0_init (l : Launch) (X : Xt) (k0 : Nat) (m0 : St) (a1 : Int32) : CtI l yX0_init cX0_init 2 rmX0_init X [.ref (xad X k0), .int a1] m0 (fX0_init k0 m0 a1) := by
  refine cti_of (own := RX0) (ls := [(0, .ref (xad X k0)), (1, .int a1)]) (by decide) rfl rfl rfl (Nat.le_of_ble_eq_true rfl) (fun K hin => ?_)
  show gX0_init K X 0 0 0 [(0, .ref (xad X k0)), (1, .int a1)] [] m0 (fX0_init k0 m0 a1)
  delta fX0_init
  refine gi_aload_n 0 DX0_init_0 rfl ?_
  refine gi_objInit DX0_init_1 oi_X0_3 (by decide) (Nat.le_of_ble_eq_true rfl) ?_
  refine gi_aload_n 0 DX0_init_4 rfl ?_
  refine gi_iconst (v := (0 : Int32)) DX0_init_5 rfl ?_
  refine gi_putI hin DX0_init_6 fpi_X0_9 (fun _ => rfl) (fun m1 => ?_)
  refine gi_aload_n 0 DX0_init_9 rfl ?_
  refine gi_iload_n 1 DX0_init_10 rfl ?_
  refine gi_newas DX0_init_11 ac_int (by show _ ≤ (1 : Nat); omega) (by show _ ≤ (200 : Nat); omega) (fun m2 => ?_)
  refine gi_putR hin DX0_init_13 fpi_X0_15 rfl rfl (fun m3 => ?_)
  refine gi_widen (cells' := 1) (slots' := 200) (by omega) (by omega) ?_
  exact gi_vret rfl DX0_init_16
abbrev gX1_init (K : Kt) (X : Xt) := GI (R := Unit) K rmX1_init X cX1_init 1 RX1 none (finI K X 3 72)
set_option maxHeartbeats 4000000 in
set_option maxRecDepth 100000 in
theorem okX1_init (l : Launch) (X : Xt) (k0 : Nat) (m0 : St) : CtI l yX1_init cX1_init 1 rmX1_init X [.ref (xad X k0)] m0 (fX1_init k0 m0) := by
  refine cti_of (own := RX1) (ls := [(0, .ref (xad X k0))]) (by decide) rfl rfl rfl (Nat.le_of_ble_eq_true rfl) (fun K hin => ?_)
  show gX1_init K X 0 0 0 [(0, .ref (xad X k0))] [] m0 (fX1_init k0 m0)
  delta fX1_init
  refine gi_aload_n 0 DX1_init_0 rfl ?_
  refine gi_objInit DX1_init_1 oi_X1_3 (by decide) (Nat.le_of_ble_eq_true rfl) ?_
  refine gi_aload_n 0 DX1_init_4 rfl ?_
  refine gi_bipush (v := (32 : Int32)) DX1_init_5 rfl ?_
  refine gi_newa (N := 32) DX1_init_7 ac_int (by decide) rfl (by decide) (by show _ ≤ (3 : Nat); omega) (by show _ ≤ (72 : Nat); omega) (fun m1 => ?_)
  refine gi_putR hin DX1_init_9 fpi_X1_9 rfl rfl (fun m2 => ?_)
  refine gi_aload_n 0 DX1_init_12 rfl ?_
  refine gi_bipush (v := (8 : Int32)) DX1_init_13 rfl ?_
  refine gi_newa (N := 8) DX1_init_15 ac_int (by decide) rfl (by decide) (by show _ ≤ (3 : Nat); omega) (by show _ ≤ (72 : Nat); omega) (fun m3 => ?_)
  refine gi_putR hin DX1_init_17 fpi_X1_15 rfl rfl (fun m4 => ?_)
  refine gi_aload_n 0 DX1_init_20 rfl ?_
  refine gi_bipush (v := (32 : Int32)) DX1_init_21 rfl ?_
  refine gi_newa (N := 32) DX1_init_23 ac_int (by decide) rfl (by decide) (by show _ ≤ (3 : Nat); omega) (by show _ ≤ (72 : Nat); omega) (fun m5 => ?_)
  refine gi_putR hin DX1_init_25 fpi_X1_18 rfl rfl (fun m6 => ?_)
  refine gi_aload_n 0 DX1_init_28 rfl ?_
  refine gi_iconst (v := (0 : Int32)) DX1_init_29 rfl ?_
  refine gi_putI hin DX1_init_30 fpi_X1_21 (fun _ => rfl) (fun m7 => ?_)
  refine gi_widen (cells' := 3) (slots' := 72) (by omega) (by omega) ?_
  exact gi_vret rfl DX1_init_33
abbrev gX2_init (K : Kt) (X : Xt) := GI (R := Unit) K rmX2_init X cX2_init 2 RX2 none (finI K X 1 8)
set_option maxHeartbeats 4000000 in
set_option maxRecDepth 100000 in
theorem okX2_init (l : Launch) (X : Xt) (k0 : Nat) (m0 : St) (a1 : Int32) : CtI l yX2_init cX2_init 2 rmX2_init X [.ref (xad X k0), .int a1] m0 (fX2_init k0 m0 a1) := by
  refine cti_of (own := RX2) (ls := [(0, .ref (xad X k0)), (1, .int a1)]) (by decide) rfl rfl rfl (Nat.le_of_ble_eq_true rfl) (fun K hin => ?_)
  show gX2_init K X 0 0 0 [(0, .ref (xad X k0)), (1, .int a1)] [] m0 (fX2_init k0 m0 a1)
  delta fX2_init
  refine gi_aload_n 0 DX2_init_0 rfl ?_
  refine gi_objInit DX2_init_1 oi_X2_3 (by decide) (Nat.le_of_ble_eq_true rfl) ?_
  refine gi_aload_n 0 DX2_init_4 rfl ?_
  refine gi_bipush (v := (8 : Int32)) DX2_init_5 rfl ?_
  refine gi_newa (N := 8) DX2_init_7 ac_int (by decide) rfl (by decide) (by show _ ≤ (1 : Nat); omega) (by show _ ≤ (8 : Nat); omega) (fun m1 => ?_)
  refine gi_putR hin DX2_init_9 fpi_X2_9 rfl rfl (fun m2 => ?_)
  refine gi_aload_n 0 DX2_init_12 rfl ?_
  refine gi_iconst (v := (0 : Int32)) DX2_init_13 rfl ?_
  refine gi_putI hin DX2_init_14 fpi_X2_15 (fun _ => rfl) (fun m3 => ?_)
  refine gi_aload_n 0 DX2_init_17 rfl ?_
  refine gi_iconst (v := (0 : Int32)) DX2_init_18 rfl ?_
  refine gi_putI hin DX2_init_19 fpi_X2_19 (fun _ => rfl) (fun m4 => ?_)
  refine gi_aload_n 0 DX2_init_22 rfl ?_
  refine gi_iload_n 1 DX2_init_23 rfl ?_
  refine gi_putZ hin DX2_init_24 fpi_X2_22 (fun _ => rfl) (fun m5 => ?_)
  refine gi_widen (cells' := 1) (slots' := 8) (by omega) (by omega) ?_
  exact gi_vret rfl DX2_init_27
abbrev gX3_init (K : Kt) (X : Xt) := GI (R := Unit) K rmX3_init X cX3_init 2 RX3 none (finI K X 23 133)
set_option maxHeartbeats 4000000 in
set_option maxRecDepth 100000 in
theorem lX3_init_L74 (K : Kt) (X : Xt) (hin : (kme K).name = "<init>") (cE sE : Nat) {k109 : St → Option (Unit × St)} (q18 : Nat)  (hk109 : ∀ (m20 : St), gX3_init K X cE sE 109 [] [] m20 (k109 m20)) (hcE : cE ≤ 23) (hsE : sE ≤ 133) :
    ∀ (n c0 s0 : Nat), c0 + n * 2 ≤ cE → s0 + n * 12 ≤ sE → ∀ (m17 : St) (x19 : Int32), gX3_init K X c0 s0 74 [(0, .ref (xad X q18)), (1, .int x19)] [] m17 (fX3_init_L74 k109 q18 n m17 x19) := by
  intro n
  induction n with
  | zero => intro c0 s0 h1 h2 m17 x19; exact gi_none
  | succ n ih =>
    intro c0 s0 h1 h2 m17 x19
    show gX3_init K X c0 s0 74 [(0, .ref (xad X q18)), (1, .int x19)] [] m17 (fX3_init_L74_b k109 q18 (fX3_init_L74 k109 q18 n) m17 x19)
    delta fX3_init_L74_b
    refine gi_iload_n 1 DX3_init_74 rfl ?_
    refine gi_bipush (v := (8 : Int32)) DX3_init_75 rfl ?_
    refine gi_icmp_ge (tgt := 109) DX3_init_77 (by decide) ?_ ?_
    · refine gi_aload_n 0 DX3_init_80 rfl ?_
      refine gi_getR (i := (q18 + 1)) DX3_init_81 fl_X3_26 ?_
      refine gi_iload_n 1 DX3_init_84 rfl ?_
      refine gi_newN (N := 4) rfl DX3_init_85 nw_X3_24 (by show _ ≤ (23 : Nat); omega) (by show _ ≤ (133 : Nat); omega) (fun m22 => ?_)
      refine gi_dup DX3_init_88 rfl ?_
      refine gi_iload_n 1 DX3_init_89 rfl ?_
      refine gi_iconst (v := (4 : Int32)) DX3_init_90 rfl ?_
      refine gi_jn (P := fun k => ∀ (v23 : Int32), gX3_init K X (c0 + 1) (s0 + 4) 99 [(0, .ref (xad X q18)), (1, .int x19)] [.int v23, .ref (xad X m17.1), .ref (xad X m17.1), .int x19, .ref (xad X (q18 + 1))] m22 (k v23)) (fun v23 => ?_) (fun j99 hj99 => ?_)
      · refine gi_call (st := [.ref (xad X m17.1), .int x19, .ref (xad X (q18 + 1))]) cmi_X3_49.1 cmi_X3_49.2 rfl DX3_init_99 (okX2_init (kl K) X m17.1 m22 v23) rfl rfl (Nat.le_of_ble_eq_true rfl) (by decide) (dc := 1) (ds := 8) ⟨rfl, rfl⟩ ⟨by show _ ≤ (23 : Nat); omega, by show _ ≤ (133 : Nat); omega⟩ (fun m24 => ?_)
        refine gi_aast (t := 14) (ci := 2) DX3_init_102 (by decide) rfl rfl (fun m25 => ?_)
        refine gi_iinc 1 (v := (x19 + (1 : Int32))) (ls' := [(1, .int (x19 + (1 : Int32))), (0, .ref (xad X q18))]) DX3_init_103 rfl rfl (by decide) rfl ?_
        refine gi_goto (tgt := 74) DX3_init_106 (by decide) ?_
        refine gi_sub [1, 0] rfl ?_
        exact ih _ _ (by omega) (by omega) m25 (x19 + (1 : Int32))
      refine gi_icmp_lt (tgt := 98) DX3_init_91 (by decide) ?_ ?_
      · refine gi_iconst (v := (0 : Int32)) DX3_init_98 rfl ?_
        exact hj99 (0 : Int32)
      · refine gi_iconst (v := (1 : Int32)) DX3_init_94 rfl ?_
        refine gi_goto (tgt := 99) DX3_init_95 (by decide) ?_
        exact hj99 (1 : Int32)
    · refine gi_widen (cells' := cE) (slots' := sE) (by omega) (by omega) ?_
      refine gi_sub [] rfl ?_
      exact hk109 m17
set_option maxHeartbeats 4000000 in
set_option maxRecDepth 100000 in
theorem okX3_init (l : Launch) (X : Xt) (k0 : Nat) (m0 : St) : CtI l yX3_init cX3_init 2 rmX3_init X [.ref (xad X k0)] m0 (fX3_init k0 m0) := by
  refine cti_of (own := RX3) (ls := [(0, .ref (xad X k0))]) (by decide) rfl rfl rfl (Nat.le_of_ble_eq_true rfl) (fun K hin => ?_)
  show gX3_init K X 0 0 0 [(0, .ref (xad X k0))] [] m0 (fX3_init k0 m0)
  delta fX3_init
  refine gi_aload_n 0 DX3_init_0 rfl ?_
  refine gi_objInit DX3_init_1 oi_X3_3 (by decide) (Nat.le_of_ble_eq_true rfl) ?_
  refine gi_aload_n 0 DX3_init_4 rfl ?_
  refine gi_iconst (v := (0 : Int32)) DX3_init_5 rfl ?_
  refine gi_putI hin DX3_init_6 fpi_X3_9 (fun _ => rfl) (fun m1 => ?_)
  refine gi_aload_n 0 DX3_init_9 rfl ?_
  refine gi_iconst (v := (0 : Int32)) DX3_init_10 rfl ?_
  refine gi_putI hin DX3_init_11 fpi_X3_15 (fun _ => rfl) (fun m2 => ?_)
  refine gi_aload_n 0 DX3_init_14 rfl ?_
  refine gi_iconst (v := (0 : Int32)) DX3_init_15 rfl ?_
  refine gi_putI hin DX3_init_16 fpi_X3_18 (fun _ => rfl) (fun m3 => ?_)
  refine gi_aload_n 0 DX3_init_19 rfl ?_
  refine gi_iconst (v := (0 : Int32)) DX3_init_20 rfl ?_
  refine gi_putI hin DX3_init_21 fpi_X3_21 (fun _ => rfl) (fun m4 => ?_)
  refine gi_aload_n 0 DX3_init_24 rfl ?_
  refine gi_bipush (v := (8 : Int32)) DX3_init_25 rfl ?_
  refine gi_anew (t := 14) (N := 8) DX3_init_27 ck_X3_24 (by decide) rfl (fun U h => h.2.1) (by decide) rfl (by decide) (by show _ ≤ (23 : Nat); omega) (by show _ ≤ (133 : Nat); omega) (fun m5 => ?_)
  refine gi_putR hin DX3_init_30 fpi_X3_26 rfl rfl (fun m6 => ?_)
  refine gi_aload_n 0 DX3_init_33 rfl ?_
  refine gi_bipush (v := (8 : Int32)) DX3_init_34 rfl ?_
  refine gi_newa (N := 8) DX3_init_36 ac_int (by decide) rfl (by decide) (by show _ ≤ (23 : Nat); omega) (by show _ ≤ (133 : Nat); omega) (fun m7 => ?_)
  refine gi_putR hin DX3_init_38 fpi_X3_30 rfl rfl (fun m8 => ?_)
  refine gi_aload_n 0 DX3_init_41 rfl ?_
  refine gi_iconst (v := (0 : Int32)) DX3_init_42 rfl ?_
  refine gi_putI hin DX3_init_43 fpi_X3_34 (fun _ => rfl) (fun m9 => ?_)
  refine gi_aload_n 0 DX3_init_46 rfl ?_
  refine gi_iconst (v := (3 : Int32)) DX3_init_47 rfl ?_
  refine gi_newa (N := 3) DX3_init_48 ac_int (by decide) rfl (by decide) (by show _ ≤ (23 : Nat); omega) (by show _ ≤ (133 : Nat); omega) (fun m10 => ?_)
  refine gi_putR hin DX3_init_50 fpi_X3_37 rfl rfl (fun m11 => ?_)
  refine gi_aload_n 0 DX3_init_53 rfl ?_
  refine gi_iconst (v := (3 : Int32)) DX3_init_54 rfl ?_
  refine gi_newa (N := 3) DX3_init_55 ac_int (by decide) rfl (by decide) (by show _ ≤ (23 : Nat); omega) (by show _ ≤ (133 : Nat); omega) (fun m12 => ?_)
  refine gi_putR hin DX3_init_57 fpi_X3_40 rfl rfl (fun m13 => ?_)
  refine gi_aload_n 0 DX3_init_60 rfl ?_
  refine gi_iconst (v := (3 : Int32)) DX3_init_61 rfl ?_
  refine gi_newa (N := 3) DX3_init_62 ac_int (by decide) rfl (by decide) (by show _ ≤ (23 : Nat); omega) (by show _ ≤ (133 : Nat); omega) (fun m14 => ?_)
  refine gi_putR hin DX3_init_64 fpi_X3_43 rfl rfl (fun m15 => ?_)
  refine gi_aload_n 0 DX3_init_67 rfl ?_
  refine gi_iconst (v := (0 : Int32)) DX3_init_68 rfl ?_
  refine gi_putI hin DX3_init_69 fpi_X3_46 (fun _ => rfl) (fun m16 => ?_)
  refine gi_iconst (v := (0 : Int32)) DX3_init_72 rfl ?_
  refine gi_istore_n (ls' := [(1, .int (0 : Int32)), (0, .ref (xad X k0))]) DX3_init_73 (by decide) rfl ?_
  refine gi_sub [1, 0] rfl ?_
  refine lX3_init_L74 K X hin (((((((0 + 1) + 1) + 1) + 1) + 1) + 9 * 2)) (((((((0 + 8) + 8) + 3) + 3) + 3) + 9 * 12)) k0 (fun m21 => ?_) (by omega) (by omega) 9 _ _ (by omega) (by omega) m16 (0 : Int32)
  · refine gi_widen (cells' := 23) (slots' := 133) (by omega) (by omega) ?_
    exact gi_vret rfl DX3_init_109
abbrev gX4_init (K : Kt) (X : Xt) := GI (R := Unit) K rmX4_init X cX4_init 2 RX4 none (finI K X 313 1884)
set_option maxHeartbeats 4000000 in
set_option maxRecDepth 100000 in
theorem lX4_init_L20 (K : Kt) (X : Xt) (hin : (kme K).name = "<init>") (cE sE : Nat) {k45 : St → Option (Unit × St)} (q5 : Nat)  (hk45 : ∀ (m7 : St), gX4_init K X cE sE 45 [] [] m7 (k45 m7)) (hcE : cE ≤ 313) (hsE : sE ≤ 1884) :
    ∀ (n c0 s0 : Nat), c0 + n * 24 ≤ cE → s0 + n * 144 ≤ sE → ∀ (m4 : St) (x6 : Int32), gX4_init K X c0 s0 20 [(0, .ref (xad X q5)), (1, .int x6)] [] m4 (fX4_init_L20 k45 q5 n m4 x6) := by
  intro n
  induction n with
  | zero => intro c0 s0 h1 h2 m4 x6; exact gi_none
  | succ n ih =>
    intro c0 s0 h1 h2 m4 x6
    show gX4_init K X c0 s0 20 [(0, .ref (xad X q5)), (1, .int x6)] [] m4 (fX4_init_L20_b k45 q5 (fX4_init_L20 k45 q5 n) m4 x6)
    delta fX4_init_L20_b
    refine gi_iload_n 1 DX4_init_20 rfl ?_
    refine gi_bipush (v := (12 : Int32)) DX4_init_21 rfl ?_
    refine gi_icmp_ge (tgt := 45) DX4_init_23 (by decide) ?_ ?_
    · refine gi_aload_n 0 DX4_init_26 rfl ?_
      refine gi_getR (i := 10) DX4_init_27 fl_X4_11 ?_
      refine gi_iload_n 1 DX4_init_30 rfl ?_
      refine gi_newN (N := 11) rfl DX4_init_31 nw_X4_9 (by show _ ≤ (313 : Nat); omega) (by show _ ≤ (1884 : Nat); omega) (fun m9 => ?_)
      refine gi_dup DX4_init_34 rfl ?_
      refine gi_call (st := [.ref (xad X m4.1), .int x6, .ref (xad X 10)]) cmi_X4_21.1 cmi_X4_21.2 rfl DX4_init_35 (okX3_init (kl K) X m4.1 m9) rfl rfl (Nat.le_of_ble_eq_true rfl) (by decide) (dc := 23) (ds := 133) ⟨rfl, rfl⟩ ⟨by show _ ≤ (313 : Nat); omega, by show _ ≤ (1884 : Nat); omega⟩ (fun m10 => ?_)
      refine gi_aast (t := 13) (ci := 3) DX4_init_38 (by decide) rfl rfl (fun m11 => ?_)
      refine gi_iinc 1 (v := (x6 + (1 : Int32))) (ls' := [(1, .int (x6 + (1 : Int32))), (0, .ref (xad X q5))]) DX4_init_39 rfl rfl (by decide) rfl ?_
      refine gi_goto (tgt := 20) DX4_init_42 (by decide) ?_
      refine gi_sub [1, 0] rfl ?_
      exact ih _ _ (by omega) (by omega) m11 (x6 + (1 : Int32))
    · refine gi_widen (cells' := cE) (slots' := sE) (by omega) (by omega) ?_
      refine gi_sub [] rfl ?_
      exact hk45 m4
set_option maxHeartbeats 4000000 in
set_option maxRecDepth 100000 in
theorem okX4_init (l : Launch) (X : Xt) (k0 : Nat) (m0 : St) : CtI l yX4_init cX4_init 2 rmX4_init X [.ref (xad X k0)] m0 (fX4_init k0 m0) := by
  refine cti_of (own := RX4) (ls := [(0, .ref (xad X k0))]) (by decide) rfl rfl rfl (Nat.le_of_ble_eq_true rfl) (fun K hin => ?_)
  show gX4_init K X 0 0 0 [(0, .ref (xad X k0))] [] m0 (fX4_init k0 m0)
  delta fX4_init
  refine gi_aload_n 0 DX4_init_0 rfl ?_
  refine gi_objInit DX4_init_1 oi_X4_3 (by decide) (Nat.le_of_ble_eq_true rfl) ?_
  refine gi_aload_n 0 DX4_init_4 rfl ?_
  refine gi_bipush (v := (12 : Int32)) DX4_init_5 rfl ?_
  refine gi_anew (t := 13) (N := 12) DX4_init_7 ck_X4_9 (by decide) rfl (fun U h => h.2.2) (by decide) rfl (by decide) (by show _ ≤ (313 : Nat); omega) (by show _ ≤ (1884 : Nat); omega) (fun m1 => ?_)
  refine gi_putR hin DX4_init_10 fpi_X4_11 rfl rfl (fun m2 => ?_)
  refine gi_aload_n 0 DX4_init_13 rfl ?_
  refine gi_iconst (v := (0 : Int32)) DX4_init_14 rfl ?_
  refine gi_putI hin DX4_init_15 fpi_X4_17 (fun _ => rfl) (fun m3 => ?_)
  refine gi_iconst (v := (0 : Int32)) DX4_init_18 rfl ?_
  refine gi_istore_n (ls' := [(1, .int (0 : Int32)), (0, .ref (xad X k0))]) DX4_init_19 (by decide) rfl ?_
  refine gi_sub [1, 0] rfl ?_
  refine lX4_init_L20 K X hin (((0 + 1) + 13 * 24)) (((0 + 12) + 13 * 144)) k0 (fun m8 => ?_) (by omega) (by omega) 13 _ _ (by omega) (by omega) m3 (0 : Int32)
  · refine gi_widen (cells' := 313) (slots' := 1884) (by omega) (by omega) ?_
    exact gi_vret rfl DX4_init_45
abbrev gX5_init (K : Kt) (X : Xt) := GI (R := Unit) K rmX5_init X cX5_init 4 RX5 none (finI K X 0 0)
set_option maxHeartbeats 4000000 in
set_option maxRecDepth 100000 in
theorem okX5_init (l : Launch) (X : Xt) (k0 : Nat) (m0 : St) (a1 : Nat) (a2 : Nat) (a3 : Nat) : CtI l yX5_init cX5_init 4 rmX5_init X [.ref (xad X k0), .ref (xad X a1), .ref (xad X a2), .ref (xad X a3)] m0 (fX5_init k0 m0 a1 a2 a3) := by
  refine cti_of (own := RX5) (ls := [(0, .ref (xad X k0)), (1, .ref (xad X a1)), (2, .ref (xad X a2)), (3, .ref (xad X a3))]) (by decide) rfl rfl rfl (Nat.le_of_ble_eq_true rfl) (fun K hin => ?_)
  show gX5_init K X 0 0 0 [(0, .ref (xad X k0)), (1, .ref (xad X a1)), (2, .ref (xad X a2)), (3, .ref (xad X a3))] [] m0 (fX5_init k0 m0 a1 a2 a3)
  delta fX5_init
  refine gi_aload_n 0 DX5_init_0 rfl ?_
  refine gi_objInit DX5_init_1 oi_X5_3 (by decide) (Nat.le_of_ble_eq_true rfl) ?_
  refine gi_aload_n 0 DX5_init_4 rfl ?_
  refine gi_iconst (v := (0 : Int32)) DX5_init_5 rfl ?_
  refine gi_putI hin DX5_init_6 fpi_X5_9 (fun _ => rfl) (fun m1 => ?_)
  refine gi_aload_n 0 DX5_init_9 rfl ?_
  refine gi_iconst (v := (0 : Int32)) DX5_init_10 rfl ?_
  refine gi_putI hin DX5_init_11 fpi_X5_15 (fun _ => rfl) (fun m2 => ?_)
  refine gi_aload_n 0 DX5_init_14 rfl ?_
  refine gi_aload_n 1 DX5_init_15 rfl ?_
  refine gi_putR hin DX5_init_16 fpi_X5_18 rfl rfl (fun m3 => ?_)
  refine gi_aload_n 0 DX5_init_19 rfl ?_
  refine gi_aload_n 2 DX5_init_20 rfl ?_
  refine gi_putR hin DX5_init_21 fpi_X5_22 rfl rfl (fun m4 => ?_)
  refine gi_aload_n 0 DX5_init_24 rfl ?_
  refine gi_aload_n 3 DX5_init_25 rfl ?_
  refine gi_putR hin DX5_init_26 fpi_X5_26 rfl rfl (fun m5 => ?_)
  refine gi_widen (cells' := 0) (slots' := 0) (by omega) (by omega) ?_
  exact gi_vret rfl DX5_init_29
abbrev gX6_init (K : Kt) (X : Xt) := GI (R := Unit) K rmX6_init X cX6_init 2 RX6 none (finI K X 5 4326)
set_option maxHeartbeats 4000000 in
set_option maxRecDepth 100000 in
theorem okX6_init (l : Launch) (X : Xt) (k0 : Nat) (m0 : St) (a1 : Nat) : CtI l yX6_init cX6_init 2 rmX6_init X [.ref (xad X k0), .ref (xad X a1)] m0 (fX6_init k0 m0 a1) := by
  refine cti_of (own := RX6) (ls := [(0, .ref (xad X k0)), (1, .ref (xad X a1))]) (by decide) rfl rfl rfl (Nat.le_of_ble_eq_true rfl) (fun K hin => ?_)
  show gX6_init K X 0 0 0 [(0, .ref (xad X k0)), (1, .ref (xad X a1))] [] m0 (fX6_init k0 m0 a1)
  delta fX6_init
  refine gi_aload_n 0 DX6_init_0 rfl ?_
  refine gi_objInit DX6_init_1 oi_X6_3 (by decide) (Nat.le_of_ble_eq_true rfl) ?_
  refine gi_aload_n 0 DX6_init_4 rfl ?_
  refine gi_sipush (v := (4096 : Int32)) DX6_init_5 rfl ?_
  refine gi_newa (N := 4096) DX6_init_8 ac_int (by decide) rfl (by decide) (by show _ ≤ (5 : Nat); omega) (by show _ ≤ (4326 : Nat); omega) (fun m1 => ?_)
  refine gi_putR hin DX6_init_10 fpi_X6_9 rfl rfl (fun m2 => ?_)
  refine gi_aload_n 0 DX6_init_13 rfl ?_
  refine gi_bipush (v := (12 : Int32)) DX6_init_14 rfl ?_
  refine gi_newa (N := 12) DX6_init_16 ac_int (by decide) rfl (by decide) (by show _ ≤ (5 : Nat); omega) (by show _ ≤ (4326 : Nat); omega) (fun m3 => ?_)
  refine gi_putR hin DX6_init_18 fpi_X6_15 rfl rfl (fun m4 => ?_)
  refine gi_aload_n 0 DX6_init_21 rfl ?_
  refine gi_iconst (v := (0 : Int32)) DX6_init_22 rfl ?_
  refine gi_putZ hin DX6_init_23 fpi_X6_18 (fun _ => rfl) (fun m5 => ?_)
  refine gi_aload_n 0 DX6_init_26 rfl ?_
  refine gi_bipush (v := (14 : Int32)) DX6_init_27 rfl ?_
  refine gi_newa (N := 14) DX6_init_29 ac_int (by decide) rfl (by decide) (by show _ ≤ (5 : Nat); omega) (by show _ ≤ (4326 : Nat); omega) (fun m6 => ?_)
  refine gi_putR hin DX6_init_31 fpi_X6_22 rfl rfl (fun m7 => ?_)
  refine gi_aload_n 0 DX6_init_34 rfl ?_
  refine gi_bipush (v := (12 : Int32)) DX6_init_35 rfl ?_
  refine gi_newa (N := 12) DX6_init_37 ac_int (by decide) rfl (by decide) (by show _ ≤ (5 : Nat); omega) (by show _ ≤ (4326 : Nat); omega) (fun m8 => ?_)
  refine gi_putR hin DX6_init_39 fpi_X6_25 rfl rfl (fun m9 => ?_)
  refine gi_aload_n 0 DX6_init_42 rfl ?_
  refine gi_sipush (v := (192 : Int32)) DX6_init_43 rfl ?_
  refine gi_newa (N := 192) DX6_init_46 ac_int (by decide) rfl (by decide) (by show _ ≤ (5 : Nat); omega) (by show _ ≤ (4326 : Nat); omega) (fun m10 => ?_)
  refine gi_putR hin DX6_init_48 fpi_X6_28 rfl rfl (fun m11 => ?_)
  refine gi_aload_n 0 DX6_init_51 rfl ?_
  refine gi_iconst (v := (0 : Int32)) DX6_init_52 rfl ?_
  refine gi_putI hin DX6_init_53 fpi_X6_31 (fun _ => rfl) (fun m12 => ?_)
  refine gi_aload_n 0 DX6_init_56 rfl ?_
  refine gi_aload_n 1 DX6_init_57 rfl ?_
  refine gi_putR hin DX6_init_58 fpi_X6_35 rfl rfl (fun m13 => ?_)
  refine gi_widen (cells' := 5) (slots' := 4326) (by omega) (by omega) ?_
  exact gi_vret rfl DX6_init_61
abbrev gX7_init (K : Kt) (X : Xt) := GI (R := Unit) K rmX7_init X cX7_init 3 RX7 none (finI K X 0 0)
set_option maxHeartbeats 4000000 in
set_option maxRecDepth 100000 in
theorem okX7_init (l : Launch) (X : Xt) (k0 : Nat) (m0 : St) (a1 : Nat) (a2 : Nat) : CtI l yX7_init cX7_init 3 rmX7_init X [.ref (xad X k0), .ref (xad X a1), .ref (xad X a2)] m0 (fX7_init k0 m0 a1 a2) := by
  refine cti_of (own := RX7) (ls := [(0, .ref (xad X k0)), (1, .ref (xad X a1)), (2, .ref (xad X a2))]) (by decide) rfl rfl rfl (Nat.le_of_ble_eq_true rfl) (fun K hin => ?_)
  show gX7_init K X 0 0 0 [(0, .ref (xad X k0)), (1, .ref (xad X a1)), (2, .ref (xad X a2))] [] m0 (fX7_init k0 m0 a1 a2)
  delta fX7_init
  refine gi_aload_n 0 DX7_init_0 rfl ?_
  refine gi_objInit DX7_init_1 oi_X7_3 (by decide) (Nat.le_of_ble_eq_true rfl) ?_
  refine gi_aload_n 0 DX7_init_4 rfl ?_
  refine gi_iconst (v := (0 : Int32)) DX7_init_5 rfl ?_
  refine gi_putI hin DX7_init_6 fpi_X7_9 (fun _ => rfl) (fun m1 => ?_)
  refine gi_aload_n 0 DX7_init_9 rfl ?_
  refine gi_iconst (v := (0 : Int32)) DX7_init_10 rfl ?_
  refine gi_putI hin DX7_init_11 fpi_X7_15 (fun _ => rfl) (fun m2 => ?_)
  refine gi_aload_n 0 DX7_init_14 rfl ?_
  refine gi_aload_n 1 DX7_init_15 rfl ?_
  refine gi_putR hin DX7_init_16 fpi_X7_18 rfl rfl (fun m3 => ?_)
  refine gi_aload_n 0 DX7_init_19 rfl ?_
  refine gi_aload_n 2 DX7_init_20 rfl ?_
  refine gi_putR hin DX7_init_21 fpi_X7_22 rfl rfl (fun m4 => ?_)
  refine gi_widen (cells' := 0) (slots' := 0) (by omega) (by omega) ?_
  exact gi_vret rfl DX7_init_24
abbrev gX8_init (K : Kt) (X : Xt) := GI (R := Unit) K rmX8_init X cX8_init 2 RX8 none (finI K X 6 2217)
set_option maxHeartbeats 4000000 in
set_option maxRecDepth 100000 in
theorem okX8_init (l : Launch) (X : Xt) (k0 : Nat) (m0 : St) (a1 : Nat) : CtI l yX8_init cX8_init 2 rmX8_init X [.ref (xad X k0), .ref (xad X a1)] m0 (fX8_init k0 m0 a1) := by
  refine cti_of (own := RX8) (ls := [(0, .ref (xad X k0)), (1, .ref (xad X a1))]) (by decide) rfl rfl rfl (Nat.le_of_ble_eq_true rfl) (fun K hin => ?_)
  show gX8_init K X 0 0 0 [(0, .ref (xad X k0)), (1, .ref (xad X a1))] [] m0 (fX8_init k0 m0 a1)
  delta fX8_init
  refine gi_aload_n 0 DX8_init_0 rfl ?_
  refine gi_objInit DX8_init_1 oi_X8_3 (by decide) (Nat.le_of_ble_eq_true rfl) ?_
  refine gi_aload_n 0 DX8_init_4 rfl ?_
  refine gi_bipush (v := (12 : Int32)) DX8_init_5 rfl ?_
  refine gi_newa (N := 12) DX8_init_7 ac_int (by decide) rfl (by decide) (by show _ ≤ (6 : Nat); omega) (by show _ ≤ (2217 : Nat); omega) (fun m1 => ?_)
  refine gi_putR hin DX8_init_9 fpi_X8_9 rfl rfl (fun m2 => ?_)
  refine gi_aload_n 0 DX8_init_12 rfl ?_
  refine gi_bipush (v := (12 : Int32)) DX8_init_13 rfl ?_
  refine gi_newa (N := 12) DX8_init_15 ac_int (by decide) rfl (by decide) (by show _ ≤ (6 : Nat); omega) (by show _ ≤ (2217 : Nat); omega) (fun m3 => ?_)
  refine gi_putR hin DX8_init_17 fpi_X8_15 rfl rfl (fun m4 => ?_)
  refine gi_aload_n 0 DX8_init_20 rfl ?_
  refine gi_iconst (v := (0 : Int32)) DX8_init_21 rfl ?_
  refine gi_putI hin DX8_init_22 fpi_X8_18 (fun _ => rfl) (fun m5 => ?_)
  refine gi_aload_n 0 DX8_init_25 rfl ?_
  refine gi_iconst (v := (0 : Int32)) DX8_init_26 rfl ?_
  refine gi_putI hin DX8_init_27 fpi_X8_22 (fun _ => rfl) (fun m6 => ?_)
  refine gi_aload_n 0 DX8_init_30 rfl ?_
  refine gi_iconst (v := (0 : Int32)) DX8_init_31 rfl ?_
  refine gi_putI hin DX8_init_32 fpi_X8_25 (fun _ => rfl) (fun m7 => ?_)
  refine gi_aload_n 0 DX8_init_35 rfl ?_
  refine gi_iconst (v := (-1 : Int32)) DX8_init_36 rfl ?_
  refine gi_putI hin DX8_init_37 fpi_X8_28 (fun _ => rfl) (fun m8 => ?_)
  refine gi_aload_n 0 DX8_init_40 rfl ?_
  refine gi_bipush (v := (6 : Int32)) DX8_init_41 rfl ?_
  refine gi_newa (N := 6) DX8_init_43 ac_int (by decide) rfl (by decide) (by show _ ≤ (6 : Nat); omega) (by show _ ≤ (2217 : Nat); omega) (fun m9 => ?_)
  refine gi_putR hin DX8_init_45 fpi_X8_31 rfl rfl (fun m10 => ?_)
  refine gi_aload_n 0 DX8_init_48 rfl ?_
  refine gi_sipush (v := (729 : Int32)) DX8_init_49 rfl ?_
  refine gi_newa (N := 729) DX8_init_52 ac_int (by decide) rfl (by decide) (by show _ ≤ (6 : Nat); omega) (by show _ ≤ (2217 : Nat); omega) (fun m11 => ?_)
  refine gi_putR hin DX8_init_54 fpi_X8_34 rfl rfl (fun m12 => ?_)
  refine gi_aload_n 0 DX8_init_57 rfl ?_
  refine gi_sipush (v := (729 : Int32)) DX8_init_58 rfl ?_
  refine gi_newa (N := 729) DX8_init_61 ac_int (by decide) rfl (by decide) (by show _ ≤ (6 : Nat); omega) (by show _ ≤ (2217 : Nat); omega) (fun m13 => ?_)
  refine gi_putR hin DX8_init_63 fpi_X8_37 rfl rfl (fun m14 => ?_)
  refine gi_aload_n 0 DX8_init_66 rfl ?_
  refine gi_sipush (v := (729 : Int32)) DX8_init_67 rfl ?_
  refine gi_newa (N := 729) DX8_init_70 ac_int (by decide) rfl (by decide) (by show _ ≤ (6 : Nat); omega) (by show _ ≤ (2217 : Nat); omega) (fun m15 => ?_)
  refine gi_putR hin DX8_init_72 fpi_X8_40 rfl rfl (fun m16 => ?_)
  refine gi_aload_n 0 DX8_init_75 rfl ?_
  refine gi_aload_n 1 DX8_init_76 rfl ?_
  refine gi_putR hin DX8_init_77 fpi_X8_43 rfl rfl (fun m17 => ?_)
  refine gi_widen (cells' := 6) (slots' := 2217) (by omega) (by omega) ?_
  exact gi_vret rfl DX8_init_80
abbrev gX9_init (K : Kt) (X : Xt) := GI (R := Unit) K rmX9_init X cX9_init 4 RX9 none (finI K X 1 4)
set_option maxHeartbeats 4000000 in
set_option maxRecDepth 100000 in
theorem okX9_init (l : Launch) (X : Xt) (k0 : Nat) (m0 : St) (a1 : Nat) (a2 : Nat) (a3 : Nat) : CtI l yX9_init cX9_init 4 rmX9_init X [.ref (xad X k0), .ref (xad X a1), .ref (xad X a2), .ref (xad X a3)] m0 (fX9_init k0 m0 a1 a2 a3) := by
  refine cti_of (own := RX9) (ls := [(0, .ref (xad X k0)), (1, .ref (xad X a1)), (2, .ref (xad X a2)), (3, .ref (xad X a3))]) (by decide) rfl rfl rfl (Nat.le_of_ble_eq_true rfl) (fun K hin => ?_)
  show gX9_init K X 0 0 0 [(0, .ref (xad X k0)), (1, .ref (xad X a1)), (2, .ref (xad X a2)), (3, .ref (xad X a3))] [] m0 (fX9_init k0 m0 a1 a2 a3)
  delta fX9_init
  refine gi_aload_n 0 DX9_init_0 rfl ?_
  refine gi_objInit DX9_init_1 oi_X9_3 (by decide) (Nat.le_of_ble_eq_true rfl) ?_
  refine gi_aload_n 0 DX9_init_4 rfl ?_
  refine gi_iconst (v := (4 : Int32)) DX9_init_5 rfl ?_
  refine gi_newa (N := 4) DX9_init_6 ac_int (by decide) rfl (by decide) (by show _ ≤ (1 : Nat); omega) (by show _ ≤ (4 : Nat); omega) (fun m1 => ?_)
  refine gi_putR hin DX9_init_8 fpi_X9_9 rfl rfl (fun m2 => ?_)
  refine gi_aload_n 0 DX9_init_11 rfl ?_
  refine gi_iconst (v := (0 : Int32)) DX9_init_12 rfl ?_
  refine gi_putI hin DX9_init_13 fpi_X9_15 (fun _ => rfl) (fun m3 => ?_)
  refine gi_aload_n 0 DX9_init_16 rfl ?_
  refine gi_iconst (v := (0 : Int32)) DX9_init_17 rfl ?_
  refine gi_putI hin DX9_init_18 fpi_X9_19 (fun _ => rfl) (fun m4 => ?_)
  refine gi_aload_n 0 DX9_init_21 rfl ?_
  refine gi_iconst (v := (0 : Int32)) DX9_init_22 rfl ?_
  refine gi_putI hin DX9_init_23 fpi_X9_22 (fun _ => rfl) (fun m5 => ?_)
  refine gi_aload_n 0 DX9_init_26 rfl ?_
  refine gi_iconst (v := (0 : Int32)) DX9_init_27 rfl ?_
  refine gi_putI hin DX9_init_28 fpi_X9_25 (fun _ => rfl) (fun m6 => ?_)
  refine gi_aload_n 0 DX9_init_31 rfl ?_
  refine gi_iconst (v := (0 : Int32)) DX9_init_32 rfl ?_
  refine gi_putI hin DX9_init_33 fpi_X9_28 (fun _ => rfl) (fun m7 => ?_)
  refine gi_aload_n 0 DX9_init_36 rfl ?_
  refine gi_aload_n 1 DX9_init_37 rfl ?_
  refine gi_putR hin DX9_init_38 fpi_X9_31 rfl rfl (fun m8 => ?_)
  refine gi_aload_n 0 DX9_init_41 rfl ?_
  refine gi_aload_n 2 DX9_init_42 rfl ?_
  refine gi_putR hin DX9_init_43 fpi_X9_35 rfl rfl (fun m9 => ?_)
  refine gi_aload_n 0 DX9_init_46 rfl ?_
  refine gi_aload_n 3 DX9_init_47 rfl ?_
  refine gi_putR hin DX9_init_48 fpi_X9_39 rfl rfl (fun m10 => ?_)
  refine gi_widen (cells' := 1) (slots' := 4) (by omega) (by omega) ?_
  exact gi_vret rfl DX9_init_51
abbrev gX10_init (K : Kt) (X : Xt) := GI (R := Unit) K rmX10_init X cX10_init 6 RX10 none (finI K X 413 10337)
set_option maxHeartbeats 4000000 in
set_option maxRecDepth 100000 in
theorem lX10_init_L174 (K : Kt) (X : Xt) (hin : (kme K).name = "<init>") (cE sE : Nat) {k201 : St → Option (Unit × St)} (q39 : Nat)  (hk201 : ∀ (m41 : St), gX10_init K X cE sE 201 [] [] m41 (k201 m41)) (hcE : cE ≤ 413) (hsE : sE ≤ 10337) :
    ∀ (n c0 s0 : Nat), c0 + n * 4 ≤ cE → s0 + n * 76 ≤ sE → ∀ (m38 : St) (x40 : Int32), gX10_init K X c0 s0 174 [(0, .ref (xad X q39)), (5, .int x40)] [] m38 (fX10_init_L174 k201 q39 n m38 x40) := by
  intro n
  induction n with
  | zero => intro c0 s0 h1 h2 m38 x40; exact gi_none
  | succ n ih =>
    intro c0 s0 h1 h2 m38 x40
    show gX10_init K X c0 s0 174 [(0, .ref (xad X q39)), (5, .int x40)] [] m38 (fX10_init_L174_b k201 q39 (fX10_init_L174 k201 q39 n) m38 x40)
    delta fX10_init_L174_b
    refine gi_iload 1 DX10_init_174 rfl ?_
    refine gi_bipush (v := (16 : Int32)) DX10_init_176 rfl ?_
    refine gi_icmp_ge (tgt := 201) DX10_init_178 (by decide) ?_ ?_
    · refine gi_aload_n 0 DX10_init_181 rfl ?_
      refine gi_getR (i := 7) DX10_init_182 fl_X10_29 ?_
      refine gi_iload 1 DX10_init_185 rfl ?_
      refine gi_newN (N := 4) rfl DX10_init_187 nw_X10_18 (by show _ ≤ (413 : Nat); omega) (by show _ ≤ (10337 : Nat); omega) (fun m43 => ?_)
      refine gi_dup DX10_init_190 rfl ?_
      refine gi_call (st := [.ref (xad X m38.1), .int x40, .ref (xad X 7)]) cmi_X10_20.1 cmi_X10_20.2 rfl DX10_init_191 (okX1_init (kl K) X m38.1 m43) rfl rfl (Nat.le_of_ble_eq_true rfl) (by decide) (dc := 3) (ds := 72) ⟨rfl, rfl⟩ ⟨by show _ ≤ (413 : Nat); omega, by show _ ≤ (10337 : Nat); omega⟩ (fun m44 => ?_)
      refine gi_aast (t := 15) (ci := 1) DX10_init_194 (by decide) rfl rfl (fun m45 => ?_)
      refine gi_iinc 1 (v := (x40 + (1 : Int32))) (ls' := [(5, .int (x40 + (1 : Int32))), (0, .ref (xad X q39))]) DX10_init_195 rfl rfl (by decide) rfl ?_
      refine gi_goto (tgt := 174) DX10_init_198 (by decide) ?_
      refine gi_sub [1, 0] rfl ?_
      exact ih _ _ (by omega) (by omega) m45 (x40 + (1 : Int32))
    · refine gi_widen (cells' := cE) (slots' := sE) (by omega) (by omega) ?_
      refine gi_sub [] rfl ?_
      exact hk201 m38
set_option maxHeartbeats 4000000 in
set_option maxRecDepth 100000 in
theorem okX10_init (l : Launch) (X : Xt) (k0 : Nat) (m0 : St) : CtI l yX10_init cX10_init 6 rmX10_init X [.ref (xad X k0)] m0 (fX10_init k0 m0) := by
  refine cti_of (own := RX10) (ls := [(0, .ref (xad X k0))]) (by decide) rfl rfl rfl (Nat.le_of_ble_eq_true rfl) (fun K hin => ?_)
  show gX10_init K X 0 0 0 [(0, .ref (xad X k0))] [] m0 (fX10_init k0 m0)
  delta fX10_init
  refine gi_aload_n 0 DX10_init_0 rfl ?_
  refine gi_objInit DX10_init_1 oi_X10_1 (by decide) (Nat.le_of_ble_eq_true rfl) ?_
  refine gi_aload_n 0 DX10_init_4 rfl ?_
  refine gi_newN (N := 2) rfl DX10_init_5 nw_X10_7 (by show _ ≤ (413 : Nat); omega) (by show _ ≤ (10337 : Nat); omega) (fun m1 => ?_)
  refine gi_dup DX10_init_8 rfl ?_
  refine gi_bipush (v := (64 : Int32)) DX10_init_9 rfl ?_
  refine gi_call (st := [.ref (xad X m0.1), .ref (xad X k0)]) cmi_X10_11.1 cmi_X10_11.2 rfl DX10_init_11 (okX0_init (kl K) X m0.1 m1 (64 : Int32)) rfl rfl (Nat.le_of_ble_eq_true rfl) (by decide) (dc := 1) (ds := 200) ⟨rfl, rfl⟩ ⟨by show _ ≤ (413 : Nat); omega, by show _ ≤ (10337 : Nat); omega⟩ (fun m2 => ?_)
  refine gi_putR hin DX10_init_14 fpi_X10_14 rfl rfl (fun m3 => ?_)
  refine gi_aload_n 0 DX10_init_17 rfl ?_
  refine gi_newN (N := 4) rfl DX10_init_18 nw_X10_18 (by show _ ≤ (413 : Nat); omega) (by show _ ≤ (10337 : Nat); omega) (fun m4 => ?_)
  refine gi_dup DX10_init_21 rfl ?_
  refine gi_call (st := [.ref (xad X m3.1), .ref (xad X k0)]) cmi_X10_20.1 cmi_X10_20.2 rfl DX10_init_22 (okX1_init (kl K) X m3.1 m4) rfl rfl (Nat.le_of_ble_eq_true rfl) (by decide) (dc := 3) (ds := 72) ⟨rfl, rfl⟩ ⟨by show _ ≤ (413 : Nat); omega, by show _ ≤ (10337 : Nat); omega⟩ (fun m5 => ?_)
  refine gi_putR hin DX10_init_25 fpi_X10_21 rfl rfl (fun m6 => ?_)
  refine gi_aload_n 0 DX10_init_28 rfl ?_
  refine gi_iconst (v := (-1 : Int32)) DX10_init_29 rfl ?_
  refine gi_putI hin DX10_init_30 fpi_X10_25 (fun _ => rfl) (fun m7 => ?_)
  refine gi_aload_n 0 DX10_init_33 rfl ?_
  refine gi_bipush (v := (16 : Int32)) DX10_init_34 rfl ?_
  refine gi_anew (t := 15) (N := 16) DX10_init_36 ck_X10_18 (by decide) rfl (fun U h => h.1) (by decide) rfl (by decide) (by show _ ≤ (413 : Nat); omega) (by show _ ≤ (10337 : Nat); omega) (fun m8 => ?_)
  refine gi_putR hin DX10_init_39 fpi_X10_29 rfl rfl (fun m9 => ?_)
  refine gi_aload_n 0 DX10_init_42 rfl ?_
  refine gi_iconst (v := (0 : Int32)) DX10_init_43 rfl ?_
  refine gi_putI hin DX10_init_44 fpi_X10_33 (fun _ => rfl) (fun m10 => ?_)
  refine gi_aload_n 0 DX10_init_47 rfl ?_
  refine gi_iconst (v := (0 : Int32)) DX10_init_48 rfl ?_
  refine gi_putI hin DX10_init_49 fpi_X10_36 (fun _ => rfl) (fun m11 => ?_)
  refine gi_aload_n 0 DX10_init_52 rfl ?_
  refine gi_iconst (v := (3 : Int32)) DX10_init_53 rfl ?_
  refine gi_newa (N := 3) DX10_init_54 ac_int (by decide) rfl (by decide) (by show _ ≤ (413 : Nat); omega) (by show _ ≤ (10337 : Nat); omega) (fun m12 => ?_)
  refine gi_putR hin DX10_init_56 fpi_X10_39 rfl rfl (fun m13 => ?_)
  refine gi_newN (N := 2) rfl DX10_init_59 nw_X10_43 (by show _ ≤ (413 : Nat); omega) (by show _ ≤ (10337 : Nat); omega) (fun m14 => ?_)
  refine gi_dup DX10_init_62 rfl ?_
  refine gi_call (st := [.ref (xad X m13.1)]) cmi_X10_45.1 cmi_X10_45.2 rfl DX10_init_63 (okX4_init (kl K) X m13.1 m14) rfl rfl (Nat.le_of_ble_eq_true rfl) (by decide) (dc := 313) (ds := 1884) ⟨rfl, rfl⟩ ⟨by show _ ≤ (413 : Nat); omega, by show _ ≤ (10337 : Nat); omega⟩ (fun m15 => ?_)
  refine gi_astore_n (ls' := [(1, .ref (xad X m13.1)), (0, .ref (xad X k0))]) DX10_init_66 (by decide) rfl ?_
  refine gi_newN (N := 8) rfl DX10_init_67 nw_X10_46 (by show _ ≤ (413 : Nat); omega) (by show _ ≤ (10337 : Nat); omega) (fun m16 => ?_)
  refine gi_dup DX10_init_70 rfl ?_
  refine gi_aload_n 0 DX10_init_71 rfl ?_
  refine gi_call (st := [.ref (xad X m15.1)]) cmi_X10_48.1 cmi_X10_48.2 rfl DX10_init_72 (okX6_init (kl K) X m15.1 m16 m13.1) rfl rfl (Nat.le_of_ble_eq_true rfl) (by decide) (dc := 5) (ds := 4326) ⟨rfl, rfl⟩ ⟨by show _ ≤ (413 : Nat); omega, by show _ ≤ (10337 : Nat); omega⟩ (fun m17 => ?_)
  refine gi_astore_n (ls' := [(2, .ref (xad X m15.1)), (1, .ref (xad X m13.1)), (0, .ref (xad X k0))]) DX10_init_75 (by decide) rfl ?_
  refine gi_newN (N := 2) rfl DX10_init_76 nw_X10_7 (by show _ ≤ (413 : Nat); omega) (by show _ ≤ (10337 : Nat); omega) (fun m18 => ?_)
  refine gi_dup DX10_init_79 rfl ?_
  refine gi_sipush (v := (200 : Int32)) DX10_init_80 rfl ?_
  refine gi_call (st := [.ref (xad X m17.1)]) cmi_X10_11.1 cmi_X10_11.2 rfl DX10_init_83 (okX0_init (kl K) X m17.1 m18 (200 : Int32)) rfl rfl (Nat.le_of_ble_eq_true rfl) (by decide) (dc := 1) (ds := 200) ⟨rfl, rfl⟩ ⟨by show _ ≤ (413 : Nat); omega, by show _ ≤ (10337 : Nat); omega⟩ (fun m19 => ?_)
  refine gi_astore_n (ls' := [(3, .ref (xad X m17.1)), (2, .ref (xad X m15.1)), (1, .ref (xad X m13.1)), (0, .ref (xad X k0))]) DX10_init_86 (by decide) rfl ?_
  refine gi_newN (N := 4) rfl DX10_init_87 nw_X10_18 (by show _ ≤ (413 : Nat); omega) (by show _ ≤ (10337 : Nat); omega) (fun m20 => ?_)
  refine gi_dup DX10_init_90 rfl ?_
  refine gi_call (st := [.ref (xad X m19.1)]) cmi_X10_20.1 cmi_X10_20.2 rfl DX10_init_91 (okX1_init (kl K) X m19.1 m20) rfl rfl (Nat.le_of_ble_eq_true rfl) (by decide) (dc := 3) (ds := 72) ⟨rfl, rfl⟩ ⟨by show _ ≤ (413 : Nat); omega, by show _ ≤ (10337 : Nat); omega⟩ (fun m21 => ?_)
  refine gi_astore (ls' := [(4, .ref (xad X m19.1)), (3, .ref (xad X m17.1)), (2, .ref (xad X m15.1)), (1, .ref (xad X m13.1)), (0, .ref (xad X k0))]) DX10_init_94 (by decide) rfl ?_
  refine gi_aload_n 4 DX10_init_96 rfl ?_
  refine gi_aload_n 3 DX10_init_97 rfl ?_
  refine gi_putR hin DX10_init_98 fpi_X10_51 rfl rfl (fun m22 => ?_)
  refine gi_aload_n 4 DX10_init_101 rfl ?_
  refine gi_aload_n 2 DX10_init_102 rfl ?_
  refine gi_putR hin DX10_init_103 fpi_X10_55 rfl rfl (fun m23 => ?_)
  refine gi_aload_n 4 DX10_init_106 rfl ?_
  refine gi_aload_n 1 DX10_init_107 rfl ?_
  refine gi_putR hin DX10_init_108 fpi_X10_59 rfl rfl (fun m24 => ?_)
  refine gi_aload_n 4 DX10_init_111 rfl ?_
  refine gi_aload 0 DX10_init_112 rfl ?_
  refine gi_putR hin DX10_init_114 fpi_X10_62 rfl rfl (fun m25 => ?_)
  refine gi_aload_n 4 DX10_init_117 rfl ?_
  refine gi_newN (N := 11) rfl DX10_init_118 nw_X10_65 (by show _ ≤ (413 : Nat); omega) (by show _ ≤ (10337 : Nat); omega) (fun m26 => ?_)
  refine gi_dup DX10_init_121 rfl ?_
  refine gi_aload_n 3 DX10_init_122 rfl ?_
  refine gi_call (st := [.ref (xad X m25.1), .ref (xad X k0)]) cmi_X10_67.1 cmi_X10_67.2 rfl DX10_init_123 (okX8_init (kl K) X m25.1 m26 m13.1) rfl rfl (Nat.le_of_ble_eq_true rfl) (by decide) (dc := 6) (ds := 2217) ⟨rfl, rfl⟩ ⟨by show _ ≤ (413 : Nat); omega, by show _ ≤ (10337 : Nat); omega⟩ (fun m27 => ?_)
  refine gi_putR hin DX10_init_126 fpi_X10_68 rfl rfl (fun m28 => ?_)
  refine gi_aload_n 4 DX10_init_129 rfl ?_
  refine gi_newN (N := 4) rfl DX10_init_130 nw_X10_72 (by show _ ≤ (413 : Nat); omega) (by show _ ≤ (10337 : Nat); omega) (fun m29 => ?_)
  refine gi_dup DX10_init_133 rfl ?_
  refine gi_aload_n 1 DX10_init_134 rfl ?_
  refine gi_aload_n 3 DX10_init_135 rfl ?_
  refine gi_call (st := [.ref (xad X m28.1), .ref (xad X k0)]) cmi_X10_74.1 cmi_X10_74.2 rfl DX10_init_136 (okX7_init (kl K) X m28.1 m29 m17.1 m13.1) rfl rfl (Nat.le_of_ble_eq_true rfl) (by decide) (dc := 0) (ds := 0) ⟨rfl, rfl⟩ ⟨by show _ ≤ (413 : Nat); omega, by show _ ≤ (10337 : Nat); omega⟩ (fun m30 => ?_)
  refine gi_putR hin DX10_init_139 fpi_X10_77 rfl rfl (fun m31 => ?_)
  refine gi_aload_n 4 DX10_init_142 rfl ?_
  refine gi_newN (N := 5) rfl DX10_init_143 nw_X10_81 (by show _ ≤ (413 : Nat); omega) (by show _ ≤ (10337 : Nat); omega) (fun m32 => ?_)
  refine gi_dup DX10_init_146 rfl ?_
  refine gi_aload_n 1 DX10_init_147 rfl ?_
  refine gi_aload_n 3 DX10_init_148 rfl ?_
  refine gi_aload_n 2 DX10_init_149 rfl ?_
  refine gi_call (st := [.ref (xad X m31.1), .ref (xad X k0)]) cmi_X10_83.1 cmi_X10_83.2 rfl DX10_init_150 (okX5_init (kl K) X m31.1 m32 m17.1 m13.1 m15.1) rfl rfl (Nat.le_of_ble_eq_true rfl) (by decide) (dc := 0) (ds := 0) ⟨rfl, rfl⟩ ⟨by show _ ≤ (413 : Nat); omega, by show _ ≤ (10337 : Nat); omega⟩ (fun m33 => ?_)
  refine gi_putR hin DX10_init_153 fpi_X10_86 rfl rfl (fun m34 => ?_)
  refine gi_aload_n 4 DX10_init_156 rfl ?_
  refine gi_newN (N := 9) rfl DX10_init_157 nw_X10_90 (by show _ ≤ (413 : Nat); omega) (by show _ ≤ (10337 : Nat); omega) (fun m35 => ?_)
  refine gi_dup DX10_init_160 rfl ?_
  refine gi_aload_n 3 DX10_init_161 rfl ?_
  refine gi_aload_n 2 DX10_init_162 rfl ?_
  refine gi_aload 0 DX10_init_163 rfl ?_
  refine gi_call (st := [.ref (xad X m34.1), .ref (xad X k0)]) cmi_X10_92.1 cmi_X10_92.2 rfl DX10_init_165 (okX9_init (kl K) X m34.1 m35 m13.1 m15.1 m19.1) rfl rfl (Nat.le_of_ble_eq_true rfl) (by decide) (dc := 1) (ds := 4) ⟨rfl, rfl⟩ ⟨by show _ ≤ (413 : Nat); omega, by show _ ≤ (10337 : Nat); omega⟩ (fun m36 => ?_)
  refine gi_putR hin DX10_init_168 fpi_X10_95 rfl rfl (fun m37 => ?_)
  refine gi_iconst (v := (0 : Int32)) DX10_init_171 rfl ?_
  refine gi_istore (ls' := [(5, .int (0 : Int32)), (4, .ref (xad X m19.1)), (3, .ref (xad X m17.1)), (2, .ref (xad X m15.1)), (1, .ref (xad X m13.1)), (0, .ref (xad X k0))]) DX10_init_172 (by decide) rfl ?_
  refine gi_sub [5, 0] rfl ?_
  refine lX10_init_L174 K X hin ((((((((((((((((((((((((0 + 1) + 1) + 1) + 3) + 1) + 1) + 1) + 313) + 1) + 5) + 1) + 1) + 1) + 3) + 1) + 6) + 1) + 0) + 1) + 0) + 1) + 1) + 17 * 4)) ((((((((((((((((((((((((0 + 2) + 200) + 4) + 72) + 16) + 3) + 2) + 1884) + 8) + 4326) + 2) + 200) + 4) + 72) + 11) + 2217) + 4) + 0) + 5) + 0) + 9) + 4) + 17 * 76)) k0 (fun m42 => ?_) (by omega) (by omega) 17 _ _ (by omega) (by omega) m37 (0 : Int32)
  · refine gi_widen (cells' := 413) (slots' := 10337) (by omega) (by omega) ?_
    exact gi_vret rfl DX10_init_201
abbrev gX11_init (K : Kt) (X : Xt) := GI (R := Unit) K rmX11_init X cX11_init 1 RX11 none (finI K X 22 10457)
set_option maxHeartbeats 4000000 in
set_option maxRecDepth 100000 in
theorem okX11_init (l : Launch) (X : Xt) (k0 : Nat) (m0 : St) : CtI l yX11_init cX11_init 1 rmX11_init X [.ref (xad X k0)] m0 (fX11_init k0 m0) := by
  refine cti_of (own := RX11) (ls := [(0, .ref (xad X k0))]) (by decide) rfl rfl rfl (Nat.le_of_ble_eq_true rfl) (fun K hin => ?_)
  show gX11_init K X 0 0 0 [(0, .ref (xad X k0))] [] m0 (fX11_init k0 m0)
  delta fX11_init
  refine gi_aload_n 0 DX11_init_0 rfl ?_
  refine gi_objInit DX11_init_1 oi_X11_1 (by decide) (Nat.le_of_ble_eq_true rfl) ?_
  refine gi_aload_n 0 DX11_init_4 rfl ?_
  refine gi_iconst (v := (3 : Int32)) DX11_init_5 rfl ?_
  refine gi_newa (N := 3) DX11_init_6 ac_int (by decide) rfl (by decide) (by show _ ≤ (22 : Nat); omega) (by show _ ≤ (10457 : Nat); omega) (fun m1 => ?_)
  refine gi_putR hin DX11_init_8 fpi_X11_7 rfl rfl (fun m2 => ?_)
  refine gi_aload_n 0 DX11_init_11 rfl ?_
  refine gi_bipush (v := (12 : Int32)) DX11_init_12 rfl ?_
  refine gi_newa (N := 12) DX11_init_14 ac_int (by decide) rfl (by decide) (by show _ ≤ (22 : Nat); omega) (by show _ ≤ (10457 : Nat); omega) (fun m3 => ?_)
  refine gi_putR hin DX11_init_16 fpi_X11_13 rfl rfl (fun m4 => ?_)
  refine gi_aload_n 0 DX11_init_19 rfl ?_
  refine gi_bipush (v := (36 : Int32)) DX11_init_20 rfl ?_
  refine gi_newa (N := 36) DX11_init_22 ac_int (by decide) rfl (by decide) (by show _ ≤ (22 : Nat); omega) (by show _ ≤ (10457 : Nat); omega) (fun m5 => ?_)
  refine gi_putR hin DX11_init_24 fpi_X11_16 rfl rfl (fun m6 => ?_)
  refine gi_aload_n 0 DX11_init_27 rfl ?_
  refine gi_sipush (v := (144 : Int32)) DX11_init_28 rfl ?_
  refine gi_newa (N := 144) DX11_init_31 ac_int (by decide) rfl (by decide) (by show _ ≤ (22 : Nat); omega) (by show _ ≤ (10457 : Nat); omega) (fun m7 => ?_)
  refine gi_putR hin DX11_init_33 fpi_X11_19 rfl rfl (fun m8 => ?_)
  refine gi_aload_n 0 DX11_init_36 rfl ?_
  refine gi_bipush (v := (12 : Int32)) DX11_init_37 rfl ?_
  refine gi_newa (N := 12) DX11_init_39 ac_int (by decide) rfl (by decide) (by show _ ≤ (22 : Nat); omega) (by show _ ≤ (10457 : Nat); omega) (fun m9 => ?_)
  refine gi_putR hin DX11_init_41 fpi_X11_22 rfl rfl (fun m10 => ?_)
  refine gi_aload_n 0 DX11_init_44 rfl ?_
  refine gi_bipush (v := (108 : Int32)) DX11_init_45 rfl ?_
  refine gi_newa (N := 108) DX11_init_47 ac_int (by decide) rfl (by decide) (by show _ ≤ (22 : Nat); omega) (by show _ ≤ (10457 : Nat); omega) (fun m11 => ?_)
  refine gi_putR hin DX11_init_49 fpi_X11_25 rfl rfl (fun m12 => ?_)
  refine gi_aload_n 0 DX11_init_52 rfl ?_
  refine gi_bipush (v := (12 : Int32)) DX11_init_53 rfl ?_
  refine gi_newa (N := 12) DX11_init_55 ac_int (by decide) rfl (by decide) (by show _ ≤ (22 : Nat); omega) (by show _ ≤ (10457 : Nat); omega) (fun m13 => ?_)
  refine gi_putR hin DX11_init_57 fpi_X11_28 rfl rfl (fun m14 => ?_)
  refine gi_aload_n 0 DX11_init_60 rfl ?_
  refine gi_bipush (v := (12 : Int32)) DX11_init_61 rfl ?_
  refine gi_newa (N := 12) DX11_init_63 ac_int (by decide) rfl (by decide) (by show _ ≤ (22 : Nat); omega) (by show _ ≤ (10457 : Nat); omega) (fun m15 => ?_)
  refine gi_putR hin DX11_init_65 fpi_X11_31 rfl rfl (fun m16 => ?_)
  refine gi_aload_n 0 DX11_init_68 rfl ?_
  refine gi_sipush (v := (4096 : Int32)) DX11_init_69 rfl ?_
  refine gi_newa (N := 4096) DX11_init_72 ac_int (by decide) rfl (by decide) (by show _ ≤ (22 : Nat); omega) (by show _ ≤ (10457 : Nat); omega) (fun m17 => ?_)
  refine gi_putR hin DX11_init_74 fpi_X11_34 rfl rfl (fun m18 => ?_)
  refine gi_aload_n 0 DX11_init_77 rfl ?_
  refine gi_sipush (v := (4096 : Int32)) DX11_init_78 rfl ?_
  refine gi_newa (N := 4096) DX11_init_81 ac_int (by decide) rfl (by decide) (by show _ ≤ (22 : Nat); omega) (by show _ ≤ (10457 : Nat); omega) (fun m19 => ?_)
  refine gi_putR hin DX11_init_83 fpi_X11_37 rfl rfl (fun m20 => ?_)
  refine gi_aload_n 0 DX11_init_86 rfl ?_
  refine gi_sipush (v := (200 : Int32)) DX11_init_87 rfl ?_
  refine gi_newa (N := 200) DX11_init_90 ac_int (by decide) rfl (by decide) (by show _ ≤ (22 : Nat); omega) (by show _ ≤ (10457 : Nat); omega) (fun m21 => ?_)
  refine gi_putR hin DX11_init_92 fpi_X11_40 rfl rfl (fun m22 => ?_)
  refine gi_aload_n 0 DX11_init_95 rfl ?_
  refine gi_bipush (v := (64 : Int32)) DX11_init_96 rfl ?_
  refine gi_newa (N := 64) DX11_init_98 ac_int (by decide) rfl (by decide) (by show _ ≤ (22 : Nat); omega) (by show _ ≤ (10457 : Nat); omega) (fun m23 => ?_)
  refine gi_putR hin DX11_init_100 fpi_X11_43 rfl rfl (fun m24 => ?_)
  refine gi_aload_n 0 DX11_init_103 rfl ?_
  refine gi_bipush (v := (73 : Int32)) DX11_init_104 rfl ?_
  refine gi_newa (N := 73) DX11_init_106 ac_int (by decide) rfl (by decide) (by show _ ≤ (22 : Nat); omega) (by show _ ≤ (10457 : Nat); omega) (fun m25 => ?_)
  refine gi_putR hin DX11_init_108 fpi_X11_46 rfl rfl (fun m26 => ?_)
  refine gi_aload_n 0 DX11_init_111 rfl ?_
  refine gi_sipush (v := (1168 : Int32)) DX11_init_112 rfl ?_
  refine gi_newa (N := 1168) DX11_init_115 ac_int (by decide) rfl (by decide) (by show _ ≤ (22 : Nat); omega) (by show _ ≤ (10457 : Nat); omega) (fun m27 => ?_)
  refine gi_putR hin DX11_init_117 fpi_X11_49 rfl rfl (fun m28 => ?_)
  refine gi_aload_n 0 DX11_init_120 rfl ?_
  refine gi_bipush (v := (73 : Int32)) DX11_init_121 rfl ?_
  refine gi_newa (N := 73) DX11_init_123 ac_int (by decide) rfl (by decide) (by show _ ≤ (22 : Nat); omega) (by show _ ≤ (10457 : Nat); omega) (fun m29 => ?_)
  refine gi_putR hin DX11_init_125 fpi_X11_52 rfl rfl (fun m30 => ?_)
  refine gi_aload_n 0 DX11_init_128 rfl ?_
  refine gi_bipush (v := (12 : Int32)) DX11_init_129 rfl ?_
  refine gi_newa (N := 12) DX11_init_131 ac_int (by decide) rfl (by decide) (by show _ ≤ (22 : Nat); omega) (by show _ ≤ (10457 : Nat); omega) (fun m31 => ?_)
  refine gi_putR hin DX11_init_133 fpi_X11_55 rfl rfl (fun m32 => ?_)
  refine gi_aload_n 0 DX11_init_136 rfl ?_
  refine gi_bipush (v := (36 : Int32)) DX11_init_137 rfl ?_
  refine gi_newa (N := 36) DX11_init_139 ac_int (by decide) rfl (by decide) (by show _ ≤ (22 : Nat); omega) (by show _ ≤ (10457 : Nat); omega) (fun m33 => ?_)
  refine gi_putR hin DX11_init_141 fpi_X11_58 rfl rfl (fun m34 => ?_)
  refine gi_aload_n 0 DX11_init_144 rfl ?_
  refine gi_sipush (v := (144 : Int32)) DX11_init_145 rfl ?_
  refine gi_newa (N := 144) DX11_init_148 ac_int (by decide) rfl (by decide) (by show _ ≤ (22 : Nat); omega) (by show _ ≤ (10457 : Nat); omega) (fun m35 => ?_)
  refine gi_putR hin DX11_init_150 fpi_X11_61 rfl rfl (fun m36 => ?_)
  refine gi_aload_n 0 DX11_init_153 rfl ?_
  refine gi_bipush (v := (12 : Int32)) DX11_init_154 rfl ?_
  refine gi_newa (N := 12) DX11_init_156 ac_int (by decide) rfl (by decide) (by show _ ≤ (22 : Nat); omega) (by show _ ≤ (10457 : Nat); omega) (fun m37 => ?_)
  refine gi_putR hin DX11_init_158 fpi_X11_64 rfl rfl (fun m38 => ?_)
  refine gi_aload_n 0 DX11_init_161 rfl ?_
  refine gi_bipush (v := (108 : Int32)) DX11_init_162 rfl ?_
  refine gi_newa (N := 108) DX11_init_164 ac_int (by decide) rfl (by decide) (by show _ ≤ (22 : Nat); omega) (by show _ ≤ (10457 : Nat); omega) (fun m39 => ?_)
  refine gi_putR hin DX11_init_166 fpi_X11_67 rfl rfl (fun m40 => ?_)
  refine gi_aload_n 0 DX11_init_169 rfl ?_
  refine gi_bipush (v := (32 : Int32)) DX11_init_170 rfl ?_
  refine gi_newa (N := 32) DX11_init_172 ac_int (by decide) rfl (by decide) (by show _ ≤ (22 : Nat); omega) (by show _ ≤ (10457 : Nat); omega) (fun m41 => ?_)
  refine gi_putR hin DX11_init_174 fpi_X11_70 rfl rfl (fun m42 => ?_)
  refine gi_aload_n 0 DX11_init_177 rfl ?_
  refine gi_iconst (v := (4 : Int32)) DX11_init_178 rfl ?_
  refine gi_newa (N := 4) DX11_init_179 ac_int (by decide) rfl (by decide) (by show _ ≤ (22 : Nat); omega) (by show _ ≤ (10457 : Nat); omega) (fun m43 => ?_)
  refine gi_putR hin DX11_init_181 fpi_X11_73 rfl rfl (fun m44 => ?_)
  refine gi_aload_n 0 DX11_init_184 rfl ?_
  refine gi_iconst (v := (0 : Int32)) DX11_init_185 rfl ?_
  refine gi_putI hin DX11_init_186 fpi_X11_76 (fun _ => rfl) (fun m45 => ?_)
  refine gi_widen (cells' := 22) (slots' := 10457) (by omega) (by omega) ?_
  exact gi_vret rfl DX11_init_189
