abbrev gX8_greedyBit (K : Kt) (X : Xt) := GE (R := Int32) K rmX8_greedyBit X cX8_greedyBit 11 RX8 (some .int) (finM K X ιI 0 0)
set_option maxHeartbeats 4000000 in
set_option maxRecDepth 100000 in
theorem lX8_greedyBit_L12 (K : Kt) (X : Xt) {k130 : Mem → Int32 → Option (Int32 × Mem)} (y2 : Int32) (y3 : Int32)  (hk130 : ∀ (m8 : Mem) (x9 : Int32), gX8_greedyBit K X 0 0 130 [(3, .int x9)] [] m8 (k130 m8 x9)) :
    ∀ (n : Nat) (m1 : Mem) (x4 : Int32) (x5 : Int32) (x6 : Int32) (x7 : Int32), gX8_greedyBit K X 0 0 12 [(0, .ref (xad X 287)), (1, .int y2), (2, .int y3), (3, .int x4), (4, .int x5), (5, .int x6), (6, .int x7)] [] m1 (fX8_greedyBit_L12 k130 y2 y3 n m1 x4 x5 x6 x7) := by
  intro n
  induction n with
  | zero => intro m1 x4 x5 x6 x7; exact ge_none
  | succ n ih =>
    intro m1 x4 x5 x6 x7
    show gX8_greedyBit K X 0 0 12 [(0, .ref (xad X 287)), (1, .int y2), (2, .int y3), (3, .int x4), (4, .int x5), (5, .int x6), (6, .int x7)] [] m1 (fX8_greedyBit_L12_b k130 y2 y3 (fX8_greedyBit_L12 k130 y2 y3 n) m1 x4 x5 x6 x7)
    delta fX8_greedyBit_L12_b
    refine ge_iload 6 DX8_greedyBit_12 rfl ?_
    refine ge_if_lt (tgt := 130) DX8_greedyBit_14 (by decide) ?_ ?_
    · refine ge_sub [3] rfl ?_
      exact hk130 m1 x4
    · refine ge_iload_n 1 DX8_greedyBit_17 rfl ?_
      refine ge_iload 6 DX8_greedyBit_18 rfl ?_
      refine ge_ishr DX8_greedyBit_20 ?_
      refine ge_iconst (v := (1 : Int32)) DX8_greedyBit_21 rfl ?_
      refine ge_iand DX8_greedyBit_22 ?_
      refine ge_jn (P := fun k => ∀ (m12 : Mem) (x13 : Int32) (x14 : Int32) (x15 : Int32), gX8_greedyBit K X 0 0 124 [(0, .ref (xad X 287)), (1, .int y2), (2, .int y3), (3, .int x13), (4, .int x14), (5, .int x15), (6, .int x7)] [] m12 (k m12 x13 x14 x15)) (fun m12 x13 x14 x15 => ?_) (fun j124 hj124 => ?_)
      · refine ge_iinc 6 (v := (x7 + (-1 : Int32))) (ls' := [(6, .int (x7 + (-1 : Int32))), (0, .ref (xad X 287)), (1, .int y2), (2, .int y3), (3, .int x13), (4, .int x14), (5, .int x15)]) DX8_greedyBit_124 rfl rfl (by decide) rfl ?_
        refine ge_goto (tgt := 12) DX8_greedyBit_127 (by decide) ?_
        refine ge_sub [1, 2, 3, 4, 5, 6, 0] rfl ?_
        exact ih m12 x13 x14 x15 (x7 + (-1 : Int32))
      refine ge_if_eq (tgt := 124) DX8_greedyBit_23 (by decide) ?_ ?_
      · exact hj124 m1 x4 x5 x6
      · refine ge_aload_n 0 DX8_greedyBit_26 rfl ?_
        refine ge_iload 6 DX8_greedyBit_27 rfl ?_
        refine ge_iload_n 2 DX8_greedyBit_29 rfl ?_
        refine ge_callVi0 (st := []) cm_X8_90 DX8_greedyBit_30 is_287 rfl (okX8_isUseful (kl K) X m1 x7 y3) rfl rfl (Nat.le_of_ble_eq_true rfl) (by decide) ⟨rfl, rfl⟩ ⟨Nat.zero_le _, Nat.zero_le _⟩ (fun r17 m16 => ?_)
        refine ge_if_ne (tgt := 39) DX8_greedyBit_33 (by decide) ?_ ?_
        · refine ge_goto (tgt := 124) DX8_greedyBit_36 (by decide) ?_
          exact hj124 m16 x4 x5 x6
        · refine ge_iload_n 2 DX8_greedyBit_39 rfl ?_
          refine ge_aload_n 0 DX8_greedyBit_40 rfl ?_
          refine ge_getR (i := 288) DX8_greedyBit_41 fl_X8_9 is_287 (by decide) rfl ?_
          refine ge_iload 6 DX8_greedyBit_44 rfl ?_
          refine ge_iald DX8_greedyBit_46 is_288 al_288 ?_
          refine ge_iconst (v := (-1 : Int32)) DX8_greedyBit_47 rfl ?_
          refine ge_ixor DX8_greedyBit_48 ?_
          refine ge_iand DX8_greedyBit_49 ?_
          refine ge_callSi0 (st := []) cm_X8_84 DX8_greedyBit_50 (okJ6_bitCount_0f7a4 (kl K) X m16 (y3 &&& ((m16 288 (ix x7)) ^^^ (-1 : Int32)))) rfl rfl (Nat.le_of_ble_eq_true rfl) (by decide) ⟨rfl, rfl⟩ ⟨Nat.zero_le _, Nat.zero_le _⟩ (fun r19 m18 => ?_)
          refine ge_istore (ls' := [(7, .int r19), (0, .ref (xad X 287)), (1, .int y2), (2, .int y3), (3, .int x4), (4, .int x5), (5, .int x6), (6, .int x7)]) DX8_greedyBit_53 (by decide) rfl ?_
          refine ge_iload_n 3 DX8_greedyBit_55 rfl ?_
          refine ge_aload_n 1 DX8_greedyBit_56 rfl ?_
          refine ge_getR (i := 289) DX8_greedyBit_57 fl_X8_15 is_287 (by decide) rfl ?_
          refine ge_iload 7 DX8_greedyBit_60 rfl ?_
          refine ge_iald DX8_greedyBit_62 is_289 al_289 ?_
          refine ge_iconst (v := (-1 : Int32)) DX8_greedyBit_63 rfl ?_
          refine ge_ixor DX8_greedyBit_64 ?_
          refine ge_iand DX8_greedyBit_65 ?_
          refine ge_callSi0 (st := []) cm_X8_84 DX8_greedyBit_66 (okJ6_bitCount_0f7a4 (kl K) X m18 (y3 &&& ((m18 289 (ix x7)) ^^^ (-1 : Int32)))) rfl rfl (Nat.le_of_ble_eq_true rfl) (by decide) ⟨rfl, rfl⟩ ⟨Nat.zero_le _, Nat.zero_le _⟩ (fun r21 m20 => ?_)
          refine ge_istore (ls' := [(8, .int r21), (7, .int r19), (0, .ref (xad X 287)), (1, .int y2), (2, .int y3), (3, .int x4), (4, .int x5), (5, .int x6), (6, .int x7)]) DX8_greedyBit_69 (by decide) rfl ?_
          refine ge_iload 1 DX8_greedyBit_71 rfl ?_
          refine ge_iload 0 DX8_greedyBit_73 rfl ?_
          refine ge_mmax (st := []) mm_X8_79 DX8_greedyBit_75 (by decide) (Nat.le_of_ble_eq_true rfl) ⟨Nat.zero_le _, Nat.zero_le _⟩ ?_
          refine ge_topi (fun x22 => ?_)
          refine ge_istore (ls' := [(9, .int x22), (8, .int r21), (7, .int r19), (0, .ref (xad X 287)), (1, .int y2), (2, .int y3), (3, .int x4), (4, .int x5), (5, .int x6), (6, .int x7)]) DX8_greedyBit_78 (by decide) rfl ?_
          refine ge_iload 2 DX8_greedyBit_80 rfl ?_
          refine ge_iload 1 DX8_greedyBit_82 rfl ?_
          refine ge_iadd DX8_greedyBit_84 ?_
          refine ge_topi (fun x23 => ?_)
          refine ge_istore (ls' := [(10, .int x23), (9, .int x22), (8, .int r21), (7, .int r19), (0, .ref (xad X 287)), (1, .int y2), (2, .int y3), (3, .int x4), (4, .int x5), (5, .int x6), (6, .int x7)]) DX8_greedyBit_85 (by decide) rfl ?_
          refine ge_iload_n 7 DX8_greedyBit_87 rfl ?_
          refine ge_iconst (v := (-1 : Int32)) DX8_greedyBit_88 rfl ?_
          refine ge_jn (P := fun k => gX8_greedyBit K X 0 0 113 [(0, .ref (xad X 287)), (1, .int y2), (2, .int y3), (6, .int x7), (9, .int x22), (10, .int x23)] [] m20 k) ?_ (fun j113 hj113 => ?_)
          · refine ge_iload 3 DX8_greedyBit_113 rfl ?_
            refine ge_istore_n (ls' := [(3, .int x7), (0, .ref (xad X 287)), (1, .int y2), (2, .int y3), (6, .int x7), (9, .int x22), (10, .int x23)]) DX8_greedyBit_115 (by decide) rfl ?_
            refine ge_iload 5 DX8_greedyBit_116 rfl ?_
            refine ge_istore (ls' := [(4, .int x22), (3, .int x7), (0, .ref (xad X 287)), (1, .int y2), (2, .int y3), (6, .int x7), (9, .int x22), (10, .int x23)]) DX8_greedyBit_118 (by decide) rfl ?_
            refine ge_iload 7 DX8_greedyBit_120 rfl ?_
            refine ge_istore (ls' := [(5, .int x23), (4, .int x22), (3, .int x7), (0, .ref (xad X 287)), (1, .int y2), (2, .int y3), (6, .int x7), (9, .int x22), (10, .int x23)]) DX8_greedyBit_122 (by decide) rfl ?_
            refine ge_sub [3, 4, 5, 2, 1, 0, 6] rfl ?_
            exact hj124 m20 x7 x22 x23
          refine ge_icmp_eq (tgt := 113) DX8_greedyBit_89 (by decide) ?_ ?_
          · refine ge_sub [4, 5, 6, 10, 1, 0] rfl ?_
            exact hj113
          · refine ge_iload 1 DX8_greedyBit_92 rfl ?_
            refine ge_iload 8 DX8_greedyBit_94 rfl ?_
            refine ge_icmp_lt (tgt := 113) DX8_greedyBit_96 (by decide) ?_ ?_
            · refine ge_sub [4, 5, 6, 10, 1, 0] rfl ?_
              exact hj113
            · refine ge_iload 1 DX8_greedyBit_99 rfl ?_
              refine ge_iload 8 DX8_greedyBit_101 rfl ?_
              refine ge_icmp_ne (tgt := 124) DX8_greedyBit_103 (by decide) ?_ ?_
              · refine ge_iload 0 DX8_greedyBit_106 rfl ?_
                refine ge_iload 9 DX8_greedyBit_108 rfl ?_
                refine ge_icmp_ge (tgt := 124) DX8_greedyBit_110 (by decide) ?_ ?_
                · refine ge_sub [4, 5, 6, 10, 1, 0] rfl ?_
                  exact hj113
                · refine ge_sub [4, 5, 6, 7, 8, 9, 10] rfl ?_
                  exact hj124 m20 x4 x5 x6
              · refine ge_sub [4, 5, 6, 7, 8, 9, 10] rfl ?_
                exact hj124 m20 x4 x5 x6
set_option maxHeartbeats 4000000 in
set_option maxRecDepth 100000 in
theorem okX8_greedyBit (l : Launch) (X : Xt) (m0 : Mem) (a1 : Int32) (a2 : Int32) : Ct l yX8_greedyBit cX8_greedyBit 11 (some .int) rmX8_greedyBit ιI X [.ref (xad X 287), .int a1, .int a2] m0 (fX8_greedyBit m0 a1 a2) := by
  refine ct_of (own := RX8) (ls := [(0, .ref (xad X 287)), (1, .int a1), (2, .int a2)]) (by decide) rfl rfl (Nat.le_of_ble_eq_true rfl) (fun K => ?_)
  show gX8_greedyBit K X 0 0 0 [(0, .ref (xad X 287)), (1, .int a1), (2, .int a2)] [] m0 (fX8_greedyBit m0 a1 a2)
  delta fX8_greedyBit
  refine ge_iconst (v := (-1 : Int32)) DX8_greedyBit_0 rfl ?_
  refine ge_istore_n (ls' := [(3, .int (-1 : Int32)), (0, .ref (xad X 287)), (1, .int a1), (2, .int a2)]) DX8_greedyBit_1 (by decide) rfl ?_
  refine ge_iconst (v := (0 : Int32)) DX8_greedyBit_2 rfl ?_
  refine ge_istore (ls' := [(4, .int (0 : Int32)), (3, .int (-1 : Int32)), (0, .ref (xad X 287)), (1, .int a1), (2, .int a2)]) DX8_greedyBit_3 (by decide) rfl ?_
  refine ge_iconst (v := (0 : Int32)) DX8_greedyBit_5 rfl ?_
  refine ge_istore (ls' := [(5, .int (0 : Int32)), (4, .int (0 : Int32)), (3, .int (-1 : Int32)), (0, .ref (xad X 287)), (1, .int a1), (2, .int a2)]) DX8_greedyBit_6 (by decide) rfl ?_
  refine ge_bipush (v := (11 : Int32)) DX8_greedyBit_8 rfl ?_
  refine ge_istore (ls' := [(6, .int (11 : Int32)), (5, .int (0 : Int32)), (4, .int (0 : Int32)), (3, .int (-1 : Int32)), (0, .ref (xad X 287)), (1, .int a1), (2, .int a2)]) DX8_greedyBit_10 (by decide) rfl ?_
  refine ge_sub [4, 5, 6, 3, 2, 1, 0] rfl ?_
  refine lX8_greedyBit_L12 K X a1 a2 (fun m10 x11 => ?_) 5000 m0 (-1 : Int32) (0 : Int32) (0 : Int32) (11 : Int32)
  · refine ge_iload_n 0 DX8_greedyBit_130 rfl ?_
    exact ge_iret rfl DX8_greedyBit_131
abbrev gX8_grow (rm : Room) (K : Kt) (X : Xt) := GE (R := Unit) K rm X cX8_grow 6 RX8 none (finM K X ιV 0 0)
set_option maxHeartbeats 4000000 in
set_option maxRecDepth 100000 in
theorem okX8_grow_b (d : Nat) (self : Mem → Int32 → Int32 → Int32 → Option (Unit × Mem)) (hself : ∀ (l : Launch) (X : Xt) (m0 : Mem) (a1 a2 a3 : Int32), Ct l yX8_grow cX8_grow 6 none (rmX8_grow d) ιV X [.ref (xad X 287), .int a1, .int a2, .int a3] m0 (self m0 a1 a2 a3)) (l : Launch) (X : Xt) (m0 : Mem) (a1 : Int32) (a2 : Int32) (a3 : Int32) : Ct l yX8_grow cX8_grow 6 none (rmX8_grow (d + 1)) ιV X [.ref (xad X 287), .int a1, .int a2, .int a3] m0 (fX8_grow_b self m0 a1 a2 a3) := by
  refine ct_of (own := RX8) (ls := [(0, .ref (xad X 287)), (1, .int a1), (2, .int a2), (3, .int a3)]) (by decide) rfl rfl (Nat.le_of_ble_eq_true rfl) (fun K => ?_)
  show gX8_grow (rmX8_grow (d + 1)) K X 0 0 0 [(0, .ref (xad X 287)), (1, .int a1), (2, .int a2), (3, .int a3)] [] m0 (fX8_grow_b self m0 a1 a2 a3)
  delta fX8_grow_b
  refine ge_iload_n 3 DX8_grow_0 rfl ?_
  refine ge_bipush (v := (6 : Int32)) DX8_grow_1 rfl ?_
  refine ge_jn (P := fun k => ∀ (m1 : Mem) (v2 : Int32), gX8_grow (rmX8_grow (d + 1)) K X 0 0 16 [(0, .ref (xad X 287)), (1, .int a1), (2, .int a2), (3, .int a3)] [.int v2] m1 (k m1 v2)) (fun m1 v2 => ?_) (fun j16 hj16 => ?_)
  · refine ge_istore (ls' := [(4, .int v2), (0, .ref (xad X 287)), (1, .int a1), (2, .int a2), (3, .int a3)]) DX8_grow_16 (by decide) rfl ?_
    refine ge_iload 0 DX8_grow_18 rfl ?_
    refine ge_iconst (v := (-1 : Int32)) DX8_grow_20 rfl ?_
    refine ge_icmp_ne (tgt := 52) DX8_grow_21 (by decide) ?_ ?_
    · refine ge_aload_n 1 DX8_grow_24 rfl ?_
      refine ge_aload_n 1 DX8_grow_25 rfl ?_
      refine ge_getI DX8_grow_26 fl_X8_22 is_287 (by decide) rfl ?_
      refine ge_iload_n 4 DX8_grow_29 rfl ?_
      refine ge_mmax (st := [.ref (xad X 287)]) mm_X8_79 DX8_grow_30 (by simp [rmX8_grow]; omega) (by simp [rmX8_grow, Value.category]; omega) ⟨Nat.zero_le _, Nat.zero_le _⟩ ?_
      refine ge_put DX8_grow_33 fp_X8_22 is_287 (by decide) rfl (fun m3 => ?_)
      refine ge_aload_n 1 DX8_grow_36 rfl ?_
      refine ge_aload_n 1 DX8_grow_37 rfl ?_
      refine ge_getI DX8_grow_38 fl_X8_25 is_287 (by decide) rfl ?_
      refine ge_iload_n 3 DX8_grow_41 rfl ?_
      refine ge_callSi0 (st := [.int (m3 287 5), .ref (xad X 287)]) cm_X8_84 DX8_grow_42 (okJ6_bitCount_0f7a4 (kl K) X m3 a2) rfl rfl (Nat.le_of_ble_eq_true rfl) (by constructor <;> simp [rmX8_grow, rmJ6_bitCount_0f7a4] <;> omega) ⟨rfl, rfl⟩ ⟨Nat.zero_le _, Nat.zero_le _⟩ (fun r5 m4 => ?_)
      refine ge_mmax (st := [.ref (xad X 287)]) mm_X8_79 DX8_grow_45 (by simp [rmX8_grow]; omega) (by simp [rmX8_grow, Value.category]; omega) ⟨Nat.zero_le _, Nat.zero_le _⟩ ?_
      refine ge_put DX8_grow_48 fp_X8_25 is_287 (by decide) rfl (fun m6 => ?_)
      exact ge_vret rfl DX8_grow_51
    · refine ge_aload_n 1 DX8_grow_52 rfl ?_
      refine ge_dup DX8_grow_53 rfl ?_
      refine ge_getI DX8_grow_54 fl_X8_18 is_287 (by decide) rfl ?_
      refine ge_iconst (v := (1 : Int32)) DX8_grow_57 rfl ?_
      refine ge_iadd DX8_grow_58 ?_
      refine ge_put DX8_grow_59 fp_X8_18 is_287 (by decide) rfl (fun m7 => ?_)
      refine ge_iload_n 2 DX8_grow_62 rfl ?_
      refine ge_iconst (v := (1 : Int32)) DX8_grow_63 rfl ?_
      refine ge_iload 0 DX8_grow_64 rfl ?_
      refine ge_ishl DX8_grow_66 ?_
      refine ge_iconst (v := (-1 : Int32)) DX8_grow_67 rfl ?_
      refine ge_ixor DX8_grow_68 ?_
      refine ge_iand DX8_grow_69 ?_
      refine ge_topi (fun x8 => ?_)
      refine ge_istore (ls' := [(5, .int x8), (4, .int v2), (0, .ref (xad X 287)), (1, .int a1), (2, .int a2), (3, .int a3)]) DX8_grow_70 (by decide) rfl ?_
      refine ge_aload_n 2 DX8_grow_72 rfl ?_
      refine ge_iload 0 DX8_grow_73 rfl ?_
      refine ge_iload_n 4 DX8_grow_75 rfl ?_
      refine ge_aload_n 2 DX8_grow_76 rfl ?_
      refine ge_getR (i := 288) DX8_grow_77 fl_X8_9 is_287 (by decide) rfl ?_
      refine ge_iload 1 DX8_grow_80 rfl ?_
      refine ge_iald DX8_grow_82 is_288 al_288 ?_
      refine ge_iconst (v := (-1 : Int32)) DX8_grow_83 rfl ?_
      refine ge_ixor DX8_grow_84 ?_
      refine ge_iand DX8_grow_85 ?_
      refine ge_iload_n 5 DX8_grow_86 rfl ?_
      refine ge_iconst (v := (1 : Int32)) DX8_grow_87 rfl ?_
      refine ge_iadd DX8_grow_88 ?_
      refine ge_callSv0 (st := []) cm_X8_75 DX8_grow_89 (hself (kl K) X m7 x8 (a2 &&& ((m7 288 (ix v2)) ^^^ (-1 : Int32))) (a3 + (1 : Int32))) rfl rfl (Nat.le_of_ble_eq_true rfl) (by constructor <;> simp [rmX8_grow, rmX8_grow] <;> omega) ⟨rfl, rfl⟩ ⟨Nat.zero_le _, Nat.zero_le _⟩ (fun m9 => ?_)
      refine ge_aload_n 2 DX8_grow_92 rfl ?_
      refine ge_iload 0 DX8_grow_93 rfl ?_
      refine ge_iload_n 4 DX8_grow_95 rfl ?_
      refine ge_aload_n 2 DX8_grow_96 rfl ?_
      refine ge_getR (i := 289) DX8_grow_97 fl_X8_15 is_287 (by decide) rfl ?_
      refine ge_iload 1 DX8_grow_100 rfl ?_
      refine ge_iald DX8_grow_102 is_289 al_289 ?_
      refine ge_iconst (v := (-1 : Int32)) DX8_grow_103 rfl ?_
      refine ge_ixor DX8_grow_104 ?_
      refine ge_iand DX8_grow_105 ?_
      refine ge_iload_n 5 DX8_grow_106 rfl ?_
      refine ge_iconst (v := (1 : Int32)) DX8_grow_107 rfl ?_
      refine ge_iadd DX8_grow_108 ?_
      refine ge_callSv0 (st := []) cm_X8_75 DX8_grow_109 (hself (kl K) X m9 x8 (a2 &&& ((m9 289 (ix v2)) ^^^ (-1 : Int32))) (a3 + (1 : Int32))) rfl rfl (Nat.le_of_ble_eq_true rfl) (by constructor <;> simp [rmX8_grow, rmX8_grow] <;> omega) ⟨rfl, rfl⟩ ⟨Nat.zero_le _, Nat.zero_le _⟩ (fun m10 => ?_)
      exact ge_vret rfl DX8_grow_112
  refine ge_icmp_ge (tgt := 15) DX8_grow_3 (by decide) ?_ ?_
  · refine ge_aload_n 0 DX8_grow_6 rfl ?_
    refine ge_iload_n 1 DX8_grow_7 rfl ?_
    refine ge_iload_n 2 DX8_grow_8 rfl ?_
    refine ge_callVi0 (st := []) cm_X8_71 DX8_grow_9 is_287 rfl (okX8_greedyBit (kl K) X m0 a1 a2) rfl rfl (Nat.le_of_ble_eq_true rfl) (by constructor <;> simp [rmX8_grow, rmX8_greedyBit] <;> omega) ⟨rfl, rfl⟩ ⟨Nat.zero_le _, Nat.zero_le _⟩ (fun r12 m11 => ?_)
    refine ge_goto (tgt := 16) DX8_grow_12 (by decide) ?_
    exact hj16 m11 r12
  · refine ge_iconst (v := (-1 : Int32)) DX8_grow_15 rfl ?_
    exact hj16 m0 (-1 : Int32)
theorem okX8_grow (d : Nat) : ∀ (l : Launch) (X : Xt) (m0 : Mem) (a1 a2 a3 : Int32), Ct l yX8_grow cX8_grow 6 none (rmX8_grow d) ιV X [.ref (xad X 287), .int a1, .int a2, .int a3] m0 (fX8_grow d m0 a1 a2 a3) := by
  induction d with
  | zero => intro l X m0 a1 a2 a3 r σ' h; cases h
  | succ d ih => intro l X m0 a1 a2 a3; exact okX8_grow_b d (fX8_grow d) ih l X m0 a1 a2 a3
abbrev gX8_growGreedy (K : Kt) (X : Xt) := GE (R := Unit) K rmX8_growGreedy X cX8_growGreedy 2 RX8 none (finM K X ιV 0 0)
set_option maxHeartbeats 4000000 in
set_option maxRecDepth 100000 in
theorem okX8_growGreedy (l : Launch) (X : Xt) (m0 : Mem) (a1 : Int32) : Ct l yX8_growGreedy cX8_growGreedy 2 none rmX8_growGreedy ιV X [.ref (xad X 287), .int a1] m0 (fX8_growGreedy m0 a1) := by
  refine ct_of (own := RX8) (ls := [(0, .ref (xad X 287)), (1, .int a1)]) (by decide) rfl rfl (Nat.le_of_ble_eq_true rfl) (fun K => ?_)
  show gX8_growGreedy K X 0 0 0 [(0, .ref (xad X 287)), (1, .int a1)] [] m0 (fX8_growGreedy m0 a1)
  delta fX8_growGreedy
  refine ge_aload_n 0 DX8_growGreedy_0 rfl ?_
  refine ge_callVv0 (st := []) cm_X8_64 DX8_growGreedy_1 is_287 rfl (okX8_lookAtForms (kl K) X m0) rfl rfl (Nat.le_of_ble_eq_true rfl) (by decide) ⟨rfl, rfl⟩ ⟨Nat.zero_le _, Nat.zero_le _⟩ (fun m1 => ?_)
  refine ge_aload_n 0 DX8_growGreedy_4 rfl ?_
  refine ge_iconst (v := (0 : Int32)) DX8_growGreedy_5 rfl ?_
  refine ge_put DX8_growGreedy_6 fp_X8_18 is_287 (by decide) rfl (fun m2 => ?_)
  refine ge_aload_n 0 DX8_growGreedy_9 rfl ?_
  refine ge_iconst (v := (0 : Int32)) DX8_growGreedy_10 rfl ?_
  refine ge_put DX8_growGreedy_11 fp_X8_22 is_287 (by decide) rfl (fun m3 => ?_)
  refine ge_aload_n 0 DX8_growGreedy_14 rfl ?_
  refine ge_iconst (v := (0 : Int32)) DX8_growGreedy_15 rfl ?_
  refine ge_put DX8_growGreedy_16 fp_X8_25 is_287 (by decide) rfl (fun m4 => ?_)
  refine ge_aload_n 0 DX8_growGreedy_19 rfl ?_
  refine ge_aload_n 0 DX8_growGreedy_20 rfl ?_
  refine ge_iload_n 1 DX8_growGreedy_21 rfl ?_
  refine ge_aload_n 0 DX8_growGreedy_22 rfl ?_
  refine ge_getR (i := 9) DX8_growGreedy_23 fl_X8_43 is_287 (by decide) rfl ?_
  refine ge_callVi0 (st := [.int a1, .ref (xad X 287), .ref (xad X 287)]) cm_X8_67 DX8_growGreedy_26 is_9 rfl (okX4_allOfThem (kl K) X m4) rfl rfl (Nat.le_of_ble_eq_true rfl) (by decide) ⟨rfl, rfl⟩ ⟨Nat.zero_le _, Nat.zero_le _⟩ (fun r6 m5 => ?_)
  refine ge_callVi0 (st := [.ref (xad X 287)]) cm_X8_71 DX8_growGreedy_29 is_287 rfl (okX8_greedyBit (kl K) X m5 a1 r6) rfl rfl (Nat.le_of_ble_eq_true rfl) (by decide) ⟨rfl, rfl⟩ ⟨Nat.zero_le _, Nat.zero_le _⟩ (fun r8 m7 => ?_)
  refine ge_put DX8_growGreedy_32 fp_X8_28 is_287 (by decide) rfl (fun m9 => ?_)
  refine ge_aload_n 0 DX8_growGreedy_35 rfl ?_
  refine ge_iload_n 1 DX8_growGreedy_36 rfl ?_
  refine ge_aload_n 0 DX8_growGreedy_37 rfl ?_
  refine ge_getR (i := 9) DX8_growGreedy_38 fl_X8_43 is_287 (by decide) rfl ?_
  refine ge_callVi0 (st := [.int a1, .ref (xad X 287)]) cm_X8_67 DX8_growGreedy_41 is_9 rfl (okX4_allOfThem (kl K) X m9) rfl rfl (Nat.le_of_ble_eq_true rfl) (by decide) ⟨rfl, rfl⟩ ⟨Nat.zero_le _, Nat.zero_le _⟩ (fun r11 m10 => ?_)
  refine ge_iconst (v := (0 : Int32)) DX8_growGreedy_44 rfl ?_
  refine ge_callSv0 (st := []) cm_X8_75 DX8_growGreedy_45 (okX8_grow 8 (kl K) X m10 a1 r11 (0 : Int32)) rfl rfl (Nat.le_of_ble_eq_true rfl) (by decide) ⟨rfl, rfl⟩ ⟨Nat.zero_le _, Nat.zero_le _⟩ (fun m12 => ?_)
  exact ge_vret rfl DX8_growGreedy_48
abbrev gX8_candidatesFor (K : Kt) (X : Xt) := GE (R := Int32) K rmX8_candidatesFor X cX8_candidatesFor 7 RX8 (some .int) (finM K X ιI 0 0)
set_option maxHeartbeats 4000000 in
set_option maxRecDepth 100000 in
theorem lX8_candidatesFor_L18 (K : Kt) (X : Xt) {k40 : Mem → Int32 → Option (Int32 × Mem)} {k93 : Mem → Int32 → Option (Int32 × Mem)} (y5 : Int32)  (hk40 : ∀ (m9 : Mem) (x10 : Int32), gX8_candidatesFor K X 0 0 40 [(4, .int x10)] [] m9 (k40 m9 x10)) (hk93 : ∀ (m13 : Mem) (x14 : Int32), gX8_candidatesFor K X 0 0 93 [(4, .int x14)] [] m13 (k93 m13 x14)) :
    ∀ (n : Nat) (m4 : Mem) (x6 : Int32) (x7 : Int32) (x8 : Int32), gX8_candidatesFor K X 0 0 18 [(0, .ref (xad X 287)), (2, .int y5), (3, .int x6), (4, .int x7), (5, .int x8)] [] m4 (fX8_candidatesFor_L18 k40 k93 y5 n m4 x6 x7 x8) := by
  intro n
  induction n with
  | zero => intro m4 x6 x7 x8; exact ge_none
  | succ n ih =>
    intro m4 x6 x7 x8
    show gX8_candidatesFor K X 0 0 18 [(0, .ref (xad X 287)), (2, .int y5), (3, .int x6), (4, .int x7), (5, .int x8)] [] m4 (fX8_candidatesFor_L18_b k40 k93 y5 (fX8_candidatesFor_L18 k40 k93 y5 n) m4 x6 x7 x8)
    delta fX8_candidatesFor_L18_b
    refine ge_iload 4 DX8_candidatesFor_18 rfl ?_
    refine ge_bipush (v := (6 : Int32)) DX8_candidatesFor_20 rfl ?_
    refine ge_icmp_ge (tgt := 93) DX8_candidatesFor_22 (by decide) ?_ ?_
    · refine ge_aload_n 0 DX8_candidatesFor_25 rfl ?_
      refine ge_iload_n 2 DX8_candidatesFor_26 rfl ?_
      refine ge_iload 3 DX8_candidatesFor_27 rfl ?_
      refine ge_callVi0 (st := []) cm_X8_71 DX8_candidatesFor_29 is_287 rfl (okX8_greedyBit (kl K) X m4 x6 x7) rfl rfl (Nat.le_of_ble_eq_true rfl) (by decide) ⟨rfl, rfl⟩ ⟨Nat.zero_le _, Nat.zero_le _⟩ (fun r18 m17 => ?_)
      refine ge_istore (ls' := [(6, .int r18), (0, .ref (xad X 287)), (2, .int y5), (3, .int x6), (4, .int x7), (5, .int x8)]) DX8_candidatesFor_32 (by decide) rfl ?_
      refine ge_iload 0 DX8_candidatesFor_34 rfl ?_
      refine ge_iconst (v := (-1 : Int32)) DX8_candidatesFor_36 rfl ?_
      refine ge_icmp_ne (tgt := 43) DX8_candidatesFor_37 (by decide) ?_ ?_
      · refine ge_sub [4] rfl ?_
        exact hk40 m17 x7
      · refine ge_iload_n 3 DX8_candidatesFor_43 rfl ?_
        refine ge_iconst (v := (1 : Int32)) DX8_candidatesFor_44 rfl ?_
        refine ge_iload 0 DX8_candidatesFor_45 rfl ?_
        refine ge_ishl DX8_candidatesFor_47 ?_
        refine ge_iconst (v := (-1 : Int32)) DX8_candidatesFor_48 rfl ?_
        refine ge_ixor DX8_candidatesFor_49 ?_
        refine ge_iand DX8_candidatesFor_50 ?_
        refine ge_topi (fun x19 => ?_)
        refine ge_istore_n (ls' := [(3, .int x19), (6, .int r18), (0, .ref (xad X 287)), (2, .int y5), (4, .int x7), (5, .int x8)]) DX8_candidatesFor_51 (by decide) rfl ?_
        refine ge_iload 4 DX8_candidatesFor_52 rfl ?_
        refine ge_iload_n 3 DX8_candidatesFor_54 rfl ?_
        refine ge_iload 1 DX8_candidatesFor_55 rfl ?_
        refine ge_ishr DX8_candidatesFor_57 ?_
        refine ge_iconst (v := (1 : Int32)) DX8_candidatesFor_58 rfl ?_
        refine ge_iand DX8_candidatesFor_59 ?_
        refine ge_jn (P := fun k => ∀ (v20 : Int32), gX8_candidatesFor K X 0 0 84 [(0, .ref (xad X 287)), (2, .int y5), (3, .int x19), (5, .int x8)] [.int v20, .int x7] m17 (k v20)) (fun v20 => ?_) (fun j84 hj84 => ?_)
        · refine ge_iand DX8_candidatesFor_84 ?_
          refine ge_topi (fun x21 => ?_)
          refine ge_istore (ls' := [(4, .int x21), (0, .ref (xad X 287)), (2, .int y5), (3, .int x19), (5, .int x8)]) DX8_candidatesFor_85 (by decide) rfl ?_
          refine ge_iinc 4 (v := (x8 + (1 : Int32))) (ls' := [(5, .int (x8 + (1 : Int32))), (4, .int x21), (0, .ref (xad X 287)), (2, .int y5), (3, .int x19)]) DX8_candidatesFor_87 rfl rfl (by decide) rfl ?_
          refine ge_goto (tgt := 18) DX8_candidatesFor_90 (by decide) ?_
          refine ge_sub [2, 3, 4, 1, 0] rfl ?_
          exact ih m17 x19 x21 (x8 + (1 : Int32))
        refine ge_if_ne (tgt := 75) DX8_candidatesFor_60 (by decide) ?_ ?_
        · refine ge_aload_n 2 DX8_candidatesFor_63 rfl ?_
          refine ge_getR (i := 288) DX8_candidatesFor_64 fl_X8_9 is_287 (by decide) rfl ?_
          refine ge_iload 1 DX8_candidatesFor_67 rfl ?_
          refine ge_iald DX8_candidatesFor_69 is_288 al_288 ?_
          refine ge_iconst (v := (-1 : Int32)) DX8_candidatesFor_70 rfl ?_
          refine ge_ixor DX8_candidatesFor_71 ?_
          refine ge_goto (tgt := 84) DX8_candidatesFor_72 (by decide) ?_
          refine ge_sub [2, 3, 0, 5] rfl ?_
          exact hj84 ((m17 288 (ix r18)) ^^^ (-1 : Int32))
        · refine ge_aload_n 2 DX8_candidatesFor_75 rfl ?_
          refine ge_getR (i := 289) DX8_candidatesFor_76 fl_X8_15 is_287 (by decide) rfl ?_
          refine ge_iload 1 DX8_candidatesFor_79 rfl ?_
          refine ge_iald DX8_candidatesFor_81 is_289 al_289 ?_
          refine ge_iconst (v := (-1 : Int32)) DX8_candidatesFor_82 rfl ?_
          refine ge_ixor DX8_candidatesFor_83 ?_
          refine ge_sub [2, 3, 0, 5] rfl ?_
          exact hj84 ((m17 289 (ix r18)) ^^^ (-1 : Int32))
    · refine ge_sub [3] rfl ?_
      exact hk93 m4 x7
set_option maxHeartbeats 4000000 in
set_option maxRecDepth 100000 in
theorem okX8_candidatesFor (l : Launch) (X : Xt) (m0 : Mem) (a1 : Int32) (a2 : Int32) : Ct l yX8_candidatesFor cX8_candidatesFor 7 (some .int) rmX8_candidatesFor ιI X [.ref (xad X 287), .int a1, .int a2] m0 (fX8_candidatesFor m0 a1 a2) := by
  refine ct_of (own := RX8) (ls := [(0, .ref (xad X 287)), (1, .int a1), (2, .int a2)]) (by decide) rfl rfl (Nat.le_of_ble_eq_true rfl) (fun K => ?_)
  show gX8_candidatesFor K X 0 0 0 [(0, .ref (xad X 287)), (1, .int a1), (2, .int a2)] [] m0 (fX8_candidatesFor m0 a1 a2)
  delta fX8_candidatesFor
  refine ge_aload_n 0 DX8_candidatesFor_0 rfl ?_
  refine ge_callVv0 (st := []) cm_X8_64 DX8_candidatesFor_1 is_287 rfl (okX8_lookAtForms (kl K) X m0) rfl rfl (Nat.le_of_ble_eq_true rfl) (by decide) ⟨rfl, rfl⟩ ⟨Nat.zero_le _, Nat.zero_le _⟩ (fun m1 => ?_)
  refine ge_iload_n 1 DX8_candidatesFor_4 rfl ?_
  refine ge_istore_n (ls' := [(3, .int a1), (0, .ref (xad X 287)), (1, .int a1), (2, .int a2)]) DX8_candidatesFor_5 (by decide) rfl ?_
  refine ge_aload_n 1 DX8_candidatesFor_6 rfl ?_
  refine ge_getR (i := 9) DX8_candidatesFor_7 fl_X8_43 is_287 (by decide) rfl ?_
  refine ge_callVi0 (st := []) cm_X8_67 DX8_candidatesFor_10 is_9 rfl (okX4_allOfThem (kl K) X m1) rfl rfl (Nat.le_of_ble_eq_true rfl) (by decide) ⟨rfl, rfl⟩ ⟨Nat.zero_le _, Nat.zero_le _⟩ (fun r3 m2 => ?_)
  refine ge_istore (ls' := [(4, .int r3), (3, .int a1), (0, .ref (xad X 287)), (1, .int a1), (2, .int a2)]) DX8_candidatesFor_13 (by decide) rfl ?_
  refine ge_iconst (v := (0 : Int32)) DX8_candidatesFor_15 rfl ?_
  refine ge_istore (ls' := [(5, .int (0 : Int32)), (4, .int r3), (3, .int a1), (0, .ref (xad X 287)), (1, .int a1), (2, .int a2)]) DX8_candidatesFor_16 (by decide) rfl ?_
  refine ge_sub [3, 5, 2, 1, 0] rfl ?_
  refine lX8_candidatesFor_L18 K X a2 (fun m11 x12 => ?_) (fun m15 x16 => ?_) 5000 m2 a1 r3 (0 : Int32)
  · refine ge_goto (tgt := 93) DX8_candidatesFor_40 (by decide) ?_
    refine ge_iload 0 DX8_candidatesFor_93 rfl ?_
    exact ge_iret rfl DX8_candidatesFor_95
  · refine ge_iload 0 DX8_candidatesFor_93 rfl ?_
    exact ge_iret rfl DX8_candidatesFor_95
abbrev gX8_fillStates (K : Kt) (X : Xt) := GE (R := Unit) K rmX8_fillStates X cX8_fillStates 6 RX8 none (finM K X ιV 0 0)
set_option maxHeartbeats 4000000 in
set_option maxRecDepth 100000 in
theorem lX8_fillStates_L44 (K : Kt) (X : Xt) {k154 : Mem → Option (Unit × Mem)} (y13 : Int32) (y14 : Int32) (y15 : Int32) (y16 : Int32)  (hk154 : ∀ (m18 : Mem), gX8_fillStates K X 0 0 154 [(0, .ref (xad X 287)), (1, .int y13), (2, .int y14)] [] m18 (k154 m18)) :
    ∀ (n : Nat) (m12 : Mem) (x17 : Int32), gX8_fillStates K X 0 0 44 [(0, .ref (xad X 287)), (1, .int y13), (2, .int y14), (3, .int y15), (4, .int y16), (5, .int x17)] [] m12 (fX8_fillStates_L44 k154 y13 y14 y15 y16 n m12 x17) := by
  intro n
  induction n with
  | zero => intro m12 x17; exact ge_none
  | succ n ih =>
    intro m12 x17
    show gX8_fillStates K X 0 0 44 [(0, .ref (xad X 287)), (1, .int y13), (2, .int y14), (3, .int y15), (4, .int y16), (5, .int x17)] [] m12 (fX8_fillStates_L44_b k154 y13 y14 y15 y16 (fX8_fillStates_L44 k154 y13 y14 y15 y16 n) m12 x17)
    delta fX8_fillStates_L44_b
    refine ge_iload 5 DX8_fillStates_44 rfl ?_
    refine ge_iload_n 3 DX8_fillStates_46 rfl ?_
    refine ge_icmp_ge (tgt := 154) DX8_fillStates_47 (by decide) ?_ ?_
    · refine ge_aload_n 0 DX8_fillStates_50 rfl ?_
      refine ge_getR (i := 291) DX8_fillStates_51 fl_X8_34 is_287 (by decide) rfl ?_
      refine ge_iload 5 DX8_fillStates_54 rfl ?_
      refine ge_iload_n 3 DX8_fillStates_56 rfl ?_
      refine ge_iadd DX8_fillStates_57 ?_
      refine ge_aload_n 0 DX8_fillStates_58 rfl ?_
      refine ge_getR (i := 291) DX8_fillStates_59 fl_X8_34 is_287 (by decide) rfl ?_
      refine ge_iload 5 DX8_fillStates_62 rfl ?_
      refine ge_iald DX8_fillStates_64 is_291 al_291 ?_
      refine ge_aload_n 0 DX8_fillStates_65 rfl ?_
      refine ge_getR (i := 288) DX8_fillStates_66 fl_X8_9 is_287 (by decide) rfl ?_
      refine ge_iload 4 DX8_fillStates_69 rfl ?_
      refine ge_iald DX8_fillStates_71 is_288 al_288 ?_
      refine ge_iconst (v := (-1 : Int32)) DX8_fillStates_72 rfl ?_
      refine ge_ixor DX8_fillStates_73 ?_
      refine ge_iand DX8_fillStates_74 ?_
      refine ge_iast DX8_fillStates_75 is_291 al_291 (fun m20 => ?_)
      refine ge_aload_n 0 DX8_fillStates_76 rfl ?_
      refine ge_getR (i := 291) DX8_fillStates_77 fl_X8_34 is_287 (by decide) rfl ?_
      refine ge_iload 5 DX8_fillStates_80 rfl ?_
      refine ge_iconst (v := (2 : Int32)) DX8_fillStates_82 rfl ?_
      refine ge_iload_n 3 DX8_fillStates_83 rfl ?_
      refine ge_imul DX8_fillStates_84 ?_
      refine ge_iadd DX8_fillStates_85 ?_
      refine ge_aload_n 0 DX8_fillStates_86 rfl ?_
      refine ge_getR (i := 291) DX8_fillStates_87 fl_X8_34 is_287 (by decide) rfl ?_
      refine ge_iload 5 DX8_fillStates_90 rfl ?_
      refine ge_iald DX8_fillStates_92 is_291 al_291 ?_
      refine ge_aload_n 0 DX8_fillStates_93 rfl ?_
      refine ge_getR (i := 289) DX8_fillStates_94 fl_X8_15 is_287 (by decide) rfl ?_
      refine ge_iload 4 DX8_fillStates_97 rfl ?_
      refine ge_iald DX8_fillStates_99 is_289 al_289 ?_
      refine ge_iconst (v := (-1 : Int32)) DX8_fillStates_100 rfl ?_
      refine ge_ixor DX8_fillStates_101 ?_
      refine ge_iand DX8_fillStates_102 ?_
      refine ge_iast DX8_fillStates_103 is_291 al_291 (fun m21 => ?_)
      refine ge_aload_n 0 DX8_fillStates_104 rfl ?_
      refine ge_getR (i := 292) DX8_fillStates_105 fl_X8_37 is_287 (by decide) rfl ?_
      refine ge_iload 5 DX8_fillStates_108 rfl ?_
      refine ge_iload_n 3 DX8_fillStates_110 rfl ?_
      refine ge_iadd DX8_fillStates_111 ?_
      refine ge_aload_n 0 DX8_fillStates_112 rfl ?_
      refine ge_getR (i := 292) DX8_fillStates_113 fl_X8_37 is_287 (by decide) rfl ?_
      refine ge_iload 5 DX8_fillStates_116 rfl ?_
      refine ge_iald DX8_fillStates_118 is_292 al_292 ?_
      refine ge_iconst (v := (1 : Int32)) DX8_fillStates_119 rfl ?_
      refine ge_iload 4 DX8_fillStates_120 rfl ?_
      refine ge_ishl DX8_fillStates_122 ?_
      refine ge_ior DX8_fillStates_123 ?_
      refine ge_iast DX8_fillStates_124 is_292 al_292 (fun m22 => ?_)
      refine ge_aload_n 0 DX8_fillStates_125 rfl ?_
      refine ge_getR (i := 292) DX8_fillStates_126 fl_X8_37 is_287 (by decide) rfl ?_
      refine ge_iload 5 DX8_fillStates_129 rfl ?_
      refine ge_iconst (v := (2 : Int32)) DX8_fillStates_131 rfl ?_
      refine ge_iload_n 3 DX8_fillStates_132 rfl ?_
      refine ge_imul DX8_fillStates_133 ?_
      refine ge_iadd DX8_fillStates_134 ?_
      refine ge_aload_n 0 DX8_fillStates_135 rfl ?_
      refine ge_getR (i := 292) DX8_fillStates_136 fl_X8_37 is_287 (by decide) rfl ?_
      refine ge_iload 5 DX8_fillStates_139 rfl ?_
      refine ge_iald DX8_fillStates_141 is_292 al_292 ?_
      refine ge_iconst (v := (1 : Int32)) DX8_fillStates_142 rfl ?_
      refine ge_iload 4 DX8_fillStates_143 rfl ?_
      refine ge_ishl DX8_fillStates_145 ?_
      refine ge_ior DX8_fillStates_146 ?_
      refine ge_iast DX8_fillStates_147 is_292 al_292 (fun m23 => ?_)
      refine ge_iinc 5 (v := (x17 + (1 : Int32))) (ls' := [(5, .int (x17 + (1 : Int32))), (0, .ref (xad X 287)), (1, .int y13), (2, .int y14), (3, .int y15), (4, .int y16)]) DX8_fillStates_148 rfl rfl (by decide) rfl ?_
      refine ge_goto (tgt := 44) DX8_fillStates_151 (by decide) ?_
      refine ge_sub [1, 2, 3, 4, 5, 0] rfl ?_
      exact ih m23 (x17 + (1 : Int32))
    · refine ge_sub [0, 1, 2] rfl ?_
      exact hk154 m12
set_option maxHeartbeats 4000000 in
set_option maxRecDepth 100000 in
theorem lX8_fillStates_L22 (K : Kt) (X : Xt) {k160 : Mem → Option (Unit × Mem)} (y6 : Int32)  (hk160 : ∀ (m8 : Mem), gX8_fillStates K X 0 0 160 [] [] m8 (k160 m8)) :
    ∀ (n : Nat) (m5 : Mem) (x7 : Int32), gX8_fillStates K X 0 0 22 [(0, .ref (xad X 287)), (1, .int y6), (2, .int x7)] [] m5 (fX8_fillStates_L22 k160 y6 n m5 x7) := by
  intro n
  induction n with
  | zero => intro m5 x7; exact ge_none
  | succ n ih =>
    intro m5 x7
    show gX8_fillStates K X 0 0 22 [(0, .ref (xad X 287)), (1, .int y6), (2, .int x7)] [] m5 (fX8_fillStates_L22_b k160 y6 (fX8_fillStates_L22 k160 y6 n) m5 x7)
    delta fX8_fillStates_L22_b
    refine ge_iload_n 2 DX8_fillStates_22 rfl ?_
    refine ge_iload_n 1 DX8_fillStates_23 rfl ?_
    refine ge_icmp_ge (tgt := 160) DX8_fillStates_24 (by decide) ?_ ?_
    · refine ge_gets DX8_fillStates_27 sl_X8_98 ?_
      refine ge_iload_n 2 DX8_fillStates_30 rfl ?_
      refine ge_sald (j := 2) DX8_fillStates_31 (by decide) rfl rfl ?_
      refine ge_topi (fun x10 => ?_)
      refine ge_istore_n (ls' := [(3, .int x10), (0, .ref (xad X 287)), (1, .int y6), (2, .int x7)]) DX8_fillStates_32 (by decide) rfl ?_
      refine ge_aload_n 1 DX8_fillStates_33 rfl ?_
      refine ge_getR (i := 290) DX8_fillStates_34 fl_X8_31 is_287 (by decide) rfl ?_
      refine ge_iload_n 3 DX8_fillStates_37 rfl ?_
      refine ge_iald DX8_fillStates_38 is_290 al_290 ?_
      refine ge_topi (fun x11 => ?_)
      refine ge_istore (ls' := [(4, .int x11), (3, .int x10), (0, .ref (xad X 287)), (1, .int y6), (2, .int x7)]) DX8_fillStates_39 (by decide) rfl ?_
      refine ge_iconst (v := (0 : Int32)) DX8_fillStates_41 rfl ?_
      refine ge_istore (ls' := [(5, .int (0 : Int32)), (4, .int x11), (3, .int x10), (0, .ref (xad X 287)), (1, .int y6), (2, .int x7)]) DX8_fillStates_42 (by decide) rfl ?_
      refine ge_sub [3, 4, 5, 2, 1, 0] rfl ?_
      refine lX8_fillStates_L44 K X y6 x7 x10 x11 (fun m19 => ?_) 5000 m5 (0 : Int32)
      · refine ge_iinc 2 (v := (x7 + (1 : Int32))) (ls' := [(2, .int (x7 + (1 : Int32))), (0, .ref (xad X 287)), (1, .int y6)]) DX8_fillStates_154 rfl rfl (by decide) rfl ?_
        refine ge_goto (tgt := 22) DX8_fillStates_157 (by decide) ?_
        refine ge_sub [1, 2, 0] rfl ?_
        exact ih m19 (x7 + (1 : Int32))
    · refine ge_sub [] rfl ?_
      exact hk160 m5
set_option maxHeartbeats 4000000 in
set_option maxRecDepth 100000 in
theorem okX8_fillStates (l : Launch) (X : Xt) (m0 : Mem) (a1 : Int32) : Ct l yX8_fillStates cX8_fillStates 6 none rmX8_fillStates ιV X [.ref (xad X 287), .int a1] m0 (fX8_fillStates m0 a1) := by
  refine ct_of (own := RX8) (ls := [(0, .ref (xad X 287)), (1, .int a1)]) (by decide) rfl rfl (Nat.le_of_ble_eq_true rfl) (fun K => ?_)
  show gX8_fillStates K X 0 0 0 [(0, .ref (xad X 287)), (1, .int a1)] [] m0 (fX8_fillStates m0 a1)
  delta fX8_fillStates
  refine ge_aload_n 0 DX8_fillStates_0 rfl ?_
  refine ge_getR (i := 291) DX8_fillStates_1 fl_X8_34 is_287 (by decide) rfl ?_
  refine ge_iconst (v := (0 : Int32)) DX8_fillStates_4 rfl ?_
  refine ge_aload_n 0 DX8_fillStates_5 rfl ?_
  refine ge_getR (i := 9) DX8_fillStates_6 fl_X8_43 is_287 (by decide) rfl ?_
  refine ge_callVi0 (st := [.int (0 : Int32), .ref (xad X 291)]) cm_X8_67 DX8_fillStates_9 is_9 rfl (okX4_allOfThem (kl K) X m0) rfl rfl (Nat.le_of_ble_eq_true rfl) (by decide) ⟨rfl, rfl⟩ ⟨Nat.zero_le _, Nat.zero_le _⟩ (fun r2 m1 => ?_)
  refine ge_iast DX8_fillStates_12 is_291 al_291 (fun m3 => ?_)
  refine ge_aload_n 0 DX8_fillStates_13 rfl ?_
  refine ge_getR (i := 292) DX8_fillStates_14 fl_X8_37 is_287 (by decide) rfl ?_
  refine ge_iconst (v := (0 : Int32)) DX8_fillStates_17 rfl ?_
  refine ge_iconst (v := (0 : Int32)) DX8_fillStates_18 rfl ?_
  refine ge_iast DX8_fillStates_19 is_292 al_292 (fun m4 => ?_)
  refine ge_iconst (v := (0 : Int32)) DX8_fillStates_20 rfl ?_
  refine ge_istore_n (ls' := [(2, .int (0 : Int32)), (0, .ref (xad X 287)), (1, .int a1)]) DX8_fillStates_21 (by decide) rfl ?_
  refine ge_sub [1, 2, 0] rfl ?_
  refine lX8_fillStates_L22 K X a1 (fun m9 => ?_) 5000 m4 (0 : Int32)
  · exact ge_vret rfl DX8_fillStates_160
abbrev gX8_chooseLeast (K : Kt) (X : Xt) := GE (R := Unit) K rmX8_chooseLeast X cX8_chooseLeast 8 RX8 none (finM K X ιV 0 0)
set_option maxHeartbeats 4000000 in
set_option maxRecDepth 100000 in
theorem lX8_chooseLeast_L10 (K : Kt) (X : Xt) {k120 : Mem → Int32 → Option (Unit × Mem)} (y3 : Int32) (y4 : Int32)  (hk120 : ∀ (m7 : Mem) (x8 : Int32), gX8_chooseLeast K X 0 0 120 [(0, .ref (xad X 287)), (1, .int y3), (3, .int x8)] [] m7 (k120 m7 x8)) :
    ∀ (n : Nat) (m2 : Mem) (x5 : Int32) (x6 : Int32), gX8_chooseLeast K X 0 0 10 [(0, .ref (xad X 287)), (1, .int y3), (2, .int y4), (3, .int x5), (4, .int x6)] [] m2 (fX8_chooseLeast_L10 k120 y3 y4 n m2 x5 x6) := by
  intro n
  induction n with
  | zero => intro m2 x5 x6; exact ge_none
  | succ n ih =>
    intro m2 x5 x6
    show gX8_chooseLeast K X 0 0 10 [(0, .ref (xad X 287)), (1, .int y3), (2, .int y4), (3, .int x5), (4, .int x6)] [] m2 (fX8_chooseLeast_L10_b k120 y3 y4 (fX8_chooseLeast_L10 k120 y3 y4 n) m2 x5 x6)
    delta fX8_chooseLeast_L10_b
    refine ge_iload 4 DX8_chooseLeast_10 rfl ?_
    refine ge_iload_n 2 DX8_chooseLeast_12 rfl ?_
    refine ge_icmp_ge (tgt := 120) DX8_chooseLeast_13 (by decide) ?_ ?_
    · refine ge_aload_n 0 DX8_chooseLeast_16 rfl ?_
      refine ge_getR (i := 290) DX8_chooseLeast_17 fl_X8_31 is_287 (by decide) rfl ?_
      refine ge_iload 4 DX8_chooseLeast_20 rfl ?_
      refine ge_iald DX8_chooseLeast_22 is_290 al_290 ?_
      refine ge_topi (fun x12 => ?_)
      refine ge_istore (ls' := [(5, .int x12), (0, .ref (xad X 287)), (1, .int y3), (2, .int y4), (3, .int x5), (4, .int x6)]) DX8_chooseLeast_23 (by decide) rfl ?_
      refine ge_aload_n 1 DX8_chooseLeast_25 rfl ?_
      refine ge_getR (i := 292) DX8_chooseLeast_26 fl_X8_37 is_287 (by decide) rfl ?_
      refine ge_iload_n 2 DX8_chooseLeast_29 rfl ?_
      refine ge_iald DX8_chooseLeast_30 is_292 al_292 ?_
      refine ge_iload 0 DX8_chooseLeast_31 rfl ?_
      refine ge_ishr DX8_chooseLeast_33 ?_
      refine ge_iconst (v := (1 : Int32)) DX8_chooseLeast_34 rfl ?_
      refine ge_iand DX8_chooseLeast_35 ?_
      refine ge_iconst (v := (1 : Int32)) DX8_chooseLeast_36 rfl ?_
      refine ge_jn (P := fun k => ∀ (m13 : Mem) (x14 : Int32), gX8_chooseLeast K X 0 0 114 [(0, .ref (xad X 287)), (1, .int y3), (2, .int y4), (3, .int x14), (4, .int x6)] [] m13 (k m13 x14)) (fun m13 x14 => ?_) (fun j114 hj114 => ?_)
      · refine ge_iinc 4 (v := (x6 + (1 : Int32))) (ls' := [(4, .int (x6 + (1 : Int32))), (0, .ref (xad X 287)), (1, .int y3), (2, .int y4), (3, .int x14)]) DX8_chooseLeast_114 rfl rfl (by decide) rfl ?_
        refine ge_goto (tgt := 10) DX8_chooseLeast_117 (by decide) ?_
        refine ge_sub [1, 2, 3, 4, 0] rfl ?_
        exact ih m13 x14 (x6 + (1 : Int32))
      refine ge_icmp_eq (tgt := 114) DX8_chooseLeast_37 (by decide) ?_ ?_
      · refine ge_sub [1, 2, 3, 4, 5] rfl ?_
        exact hj114 m2 x5
      · refine ge_aload_n 1 DX8_chooseLeast_40 rfl ?_
        refine ge_iload 0 DX8_chooseLeast_41 rfl ?_
        refine ge_aload_n 1 DX8_chooseLeast_43 rfl ?_
        refine ge_getR (i := 291) DX8_chooseLeast_44 fl_X8_34 is_287 (by decide) rfl ?_
        refine ge_iload_n 2 DX8_chooseLeast_47 rfl ?_
        refine ge_iald DX8_chooseLeast_48 is_291 al_291 ?_
        refine ge_callVi0 (st := []) cm_X8_90 DX8_chooseLeast_49 is_287 rfl (okX8_isUseful (kl K) X m2 x12 (m2 291 (ix y3))) rfl rfl (Nat.le_of_ble_eq_true rfl) (by decide) ⟨rfl, rfl⟩ ⟨Nat.zero_le _, Nat.zero_le _⟩ (fun r16 m15 => ?_)
        refine ge_if_ne (tgt := 58) DX8_chooseLeast_52 (by decide) ?_ ?_
        · refine ge_goto (tgt := 114) DX8_chooseLeast_55 (by decide) ?_
          refine ge_sub [1, 2, 3, 4, 5] rfl ?_
          exact hj114 m15 x5
        · refine ge_gets DX8_chooseLeast_58 sl_X8_98 ?_
          refine ge_iload 5 DX8_chooseLeast_61 rfl ?_
          refine ge_sald (j := 2) DX8_chooseLeast_63 (by decide) rfl rfl ?_
          refine ge_topi (fun x17 => ?_)
          refine ge_istore (ls' := [(6, .int x17), (5, .int x12), (0, .ref (xad X 287)), (1, .int y3), (2, .int y4), (3, .int x5), (4, .int x6)]) DX8_chooseLeast_64 (by decide) rfl ?_
          refine ge_iconst (v := (1 : Int32)) DX8_chooseLeast_66 rfl ?_
          refine ge_aload_n 2 DX8_chooseLeast_67 rfl ?_
          refine ge_getR (i := 293) DX8_chooseLeast_68 fl_X8_40 is_287 (by decide) rfl ?_
          refine ge_iload_n 3 DX8_chooseLeast_71 rfl ?_
          refine ge_iload 0 DX8_chooseLeast_72 rfl ?_
          refine ge_iadd DX8_chooseLeast_74 ?_
          refine ge_iald DX8_chooseLeast_75 is_293 al_293 ?_
          refine ge_iadd DX8_chooseLeast_76 ?_
          refine ge_aload_n 2 DX8_chooseLeast_77 rfl ?_
          refine ge_getR (i := 293) DX8_chooseLeast_78 fl_X8_40 is_287 (by decide) rfl ?_
          refine ge_iload_n 3 DX8_chooseLeast_81 rfl ?_
          refine ge_iconst (v := (2 : Int32)) DX8_chooseLeast_82 rfl ?_
          refine ge_iload 0 DX8_chooseLeast_83 rfl ?_
          refine ge_imul DX8_chooseLeast_85 ?_
          refine ge_iadd DX8_chooseLeast_86 ?_
          refine ge_iald DX8_chooseLeast_87 is_293 al_293 ?_
          refine ge_iadd DX8_chooseLeast_88 ?_
          refine ge_topi (fun x18 => ?_)
          refine ge_istore (ls' := [(7, .int x18), (6, .int x17), (5, .int x12), (0, .ref (xad X 287)), (1, .int y3), (2, .int y4), (3, .int x5), (4, .int x6)]) DX8_chooseLeast_89 (by decide) rfl ?_
          refine ge_aload_n 3 DX8_chooseLeast_91 rfl ?_
          refine ge_getI DX8_chooseLeast_92 fl_X8_28 is_287 (by decide) rfl ?_
          refine ge_iconst (v := (-1 : Int32)) DX8_chooseLeast_95 rfl ?_
          refine ge_jn (P := fun k => gX8_chooseLeast K X 0 0 105 [(0, .ref (xad X 287)), (1, .int y3), (2, .int y4), (4, .int x6), (5, .int x12), (7, .int x18)] [] m15 k) ?_ (fun j105 hj105 => ?_)
          · refine ge_aload_n 0 DX8_chooseLeast_105 rfl ?_
            refine ge_iload 4 DX8_chooseLeast_106 rfl ?_
            refine ge_put DX8_chooseLeast_108 fp_X8_28 is_287 (by decide) rfl (fun m19 => ?_)
            refine ge_iload 5 DX8_chooseLeast_111 rfl ?_
            refine ge_istore_n (ls' := [(3, .int x18), (0, .ref (xad X 287)), (1, .int y3), (2, .int y4), (4, .int x6), (5, .int x12), (7, .int x18)]) DX8_chooseLeast_113 (by decide) rfl ?_
            refine ge_sub [1, 2, 3, 0, 4] rfl ?_
            exact hj114 m19 x18
          refine ge_icmp_eq (tgt := 105) DX8_chooseLeast_96 (by decide) ?_ ?_
          · refine ge_sub [3, 4, 5, 7, 2, 0] rfl ?_
            exact hj105
          · refine ge_iload 0 DX8_chooseLeast_99 rfl ?_
            refine ge_iload_n 6 DX8_chooseLeast_101 rfl ?_
            refine ge_icmp_ge (tgt := 114) DX8_chooseLeast_102 (by decide) ?_ ?_
            · refine ge_sub [3, 4, 5, 7, 2, 0] rfl ?_
              exact hj105
            · refine ge_sub [3, 4, 5, 6, 7] rfl ?_
              exact hj114 m15 x5
    · refine ge_sub [0, 1, 3] rfl ?_
      exact hk120 m2 x5
set_option maxHeartbeats 4000000 in
set_option maxRecDepth 100000 in
theorem okX8_chooseLeast (l : Launch) (X : Xt) (m0 : Mem) (a1 : Int32) (a2 : Int32) : Ct l yX8_chooseLeast cX8_chooseLeast 8 none rmX8_chooseLeast ιV X [.ref (xad X 287), .int a1, .int a2] m0 (fX8_chooseLeast m0 a1 a2) := by
  refine ct_of (own := RX8) (ls := [(0, .ref (xad X 287)), (1, .int a1), (2, .int a2)]) (by decide) rfl rfl (Nat.le_of_ble_eq_true rfl) (fun K => ?_)
  show gX8_chooseLeast K X 0 0 0 [(0, .ref (xad X 287)), (1, .int a1), (2, .int a2)] [] m0 (fX8_chooseLeast m0 a1 a2)
  delta fX8_chooseLeast
  refine ge_iconst (v := (0 : Int32)) DX8_chooseLeast_0 rfl ?_
  refine ge_istore_n (ls' := [(3, .int (0 : Int32)), (0, .ref (xad X 287)), (1, .int a1), (2, .int a2)]) DX8_chooseLeast_1 (by decide) rfl ?_
  refine ge_aload_n 1 DX8_chooseLeast_2 rfl ?_
  refine ge_iconst (v := (-1 : Int32)) DX8_chooseLeast_3 rfl ?_
  refine ge_put DX8_chooseLeast_4 fp_X8_28 is_287 (by decide) rfl (fun m1 => ?_)
  refine ge_iconst (v := (0 : Int32)) DX8_chooseLeast_7 rfl ?_
  refine ge_istore (ls' := [(4, .int (0 : Int32)), (3, .int (0 : Int32)), (0, .ref (xad X 287)), (1, .int a1), (2, .int a2)]) DX8_chooseLeast_8 (by decide) rfl ?_
  refine ge_sub [2, 3, 4, 1, 0] rfl ?_
  refine lX8_chooseLeast_L10 K X a1 a2 (fun m9 x10 => ?_) 5000 m1 (0 : Int32) (0 : Int32)
  · refine ge_aload_n 0 DX8_chooseLeast_120 rfl ?_
    refine ge_getR (i := 293) DX8_chooseLeast_121 fl_X8_40 is_287 (by decide) rfl ?_
    refine ge_iload_n 1 DX8_chooseLeast_124 rfl ?_
    refine ge_iload_n 2 DX8_chooseLeast_125 rfl ?_
    refine ge_iast DX8_chooseLeast_126 is_293 al_293 (fun m11 => ?_)
    exact ge_vret rfl DX8_chooseLeast_127
abbrev gX8_growLeast (K : Kt) (X : Xt) := GE (R := Unit) K rmX8_growLeast X cX8_growLeast 4 RX8 none (finM K X ιV 0 0)
set_option maxHeartbeats 4000000 in
set_option maxRecDepth 100000 in
theorem lX8_growLeast_L57 (K : Kt) (X : Xt) {k73 : Mem → Option (Unit × Mem)} (y13 : Int32)  (hk73 : ∀ (m15 : Mem), gX8_growLeast K X 0 0 73 [(0, .ref (xad X 287))] [] m15 (k73 m15)) :
    ∀ (n : Nat) (m12 : Mem) (x14 : Int32), gX8_growLeast K X 0 0 57 [(0, .ref (xad X 287)), (2, .int y13), (3, .int x14)] [] m12 (fX8_growLeast_L57 k73 y13 n m12 x14) := by
  intro n
  induction n with
  | zero => intro m12 x14; exact ge_none
  | succ n ih =>
    intro m12 x14
    show gX8_growLeast K X 0 0 57 [(0, .ref (xad X 287)), (2, .int y13), (3, .int x14)] [] m12 (fX8_growLeast_L57_b k73 y13 (fX8_growLeast_L57 k73 y13 n) m12 x14)
    delta fX8_growLeast_L57_b
    refine ge_iload_n 2 DX8_growLeast_57 rfl ?_
    refine ge_if_lt (tgt := 73) DX8_growLeast_58 (by decide) ?_ ?_
    · refine ge_sub [0] rfl ?_
      exact hk73 m12
    · refine ge_aload_n 0 DX8_growLeast_61 rfl ?_
      refine ge_iload_n 2 DX8_growLeast_62 rfl ?_
      refine ge_iload_n 1 DX8_growLeast_63 rfl ?_
      refine ge_callVv0 (st := []) cm_X8_101 DX8_growLeast_64 is_287 rfl (okX8_chooseLeast (kl K) X m12 x14 y13) rfl rfl (Nat.le_of_ble_eq_true rfl) (by decide) ⟨rfl, rfl⟩ ⟨Nat.zero_le _, Nat.zero_le _⟩ (fun m18 => ?_)
      refine ge_iinc 2 (v := (x14 + (-1 : Int32))) (ls' := [(3, .int (x14 + (-1 : Int32))), (0, .ref (xad X 287)), (2, .int y13)]) DX8_growLeast_67 rfl rfl (by decide) rfl ?_
      refine ge_goto (tgt := 57) DX8_growLeast_70 (by decide) ?_
      refine ge_sub [1, 2, 0] rfl ?_
      exact ih m18 (x14 + (-1 : Int32))
set_option maxHeartbeats 4000000 in
set_option maxRecDepth 100000 in
theorem lX8_growLeast_L9 (K : Kt) (X : Xt) {k44 : Mem → Int32 → Option (Unit × Mem)} (y3 : Int32)  (hk44 : ∀ (m6 : Mem) (x7 : Int32), gX8_growLeast K X 0 0 44 [(0, .ref (xad X 287)), (2, .int x7)] [] m6 (k44 m6 x7)) :
    ∀ (n : Nat) (m2 : Mem) (x4 : Int32) (x5 : Int32), gX8_growLeast K X 0 0 9 [(0, .ref (xad X 287)), (1, .int y3), (2, .int x4), (3, .int x5)] [] m2 (fX8_growLeast_L9 k44 y3 n m2 x4 x5) := by
  intro n
  induction n with
  | zero => intro m2 x4 x5; exact ge_none
  | succ n ih =>
    intro m2 x4 x5
    show gX8_growLeast K X 0 0 9 [(0, .ref (xad X 287)), (1, .int y3), (2, .int x4), (3, .int x5)] [] m2 (fX8_growLeast_L9_b k44 y3 (fX8_growLeast_L9 k44 y3 n) m2 x4 x5)
    delta fX8_growLeast_L9_b
    refine ge_iload_n 3 DX8_growLeast_9 rfl ?_
    refine ge_if_lt (tgt := 44) DX8_growLeast_10 (by decide) ?_ ?_
    · refine ge_sub [0, 2] rfl ?_
      exact hk44 m2 x4
    · refine ge_iload_n 1 DX8_growLeast_13 rfl ?_
      refine ge_iload_n 3 DX8_growLeast_14 rfl ?_
      refine ge_ishr DX8_growLeast_15 ?_
      refine ge_iconst (v := (1 : Int32)) DX8_growLeast_16 rfl ?_
      refine ge_iand DX8_growLeast_17 ?_
      refine ge_iconst (v := (1 : Int32)) DX8_growLeast_18 rfl ?_
      refine ge_jn (P := fun k => ∀ (m19 : Mem) (x20 : Int32), gX8_growLeast K X 0 0 38 [(0, .ref (xad X 287)), (1, .int y3), (2, .int x20), (3, .int x5)] [] m19 (k m19 x20)) (fun m19 x20 => ?_) (fun j38 hj38 => ?_)
      · refine ge_iinc 3 (v := (x5 + (-1 : Int32))) (ls' := [(3, .int (x5 + (-1 : Int32))), (0, .ref (xad X 287)), (1, .int y3), (2, .int x20)]) DX8_growLeast_38 rfl rfl (by decide) rfl ?_
        refine ge_goto (tgt := 9) DX8_growLeast_41 (by decide) ?_
        refine ge_sub [1, 2, 3, 0] rfl ?_
        exact ih m19 x20 (x5 + (-1 : Int32))
      refine ge_icmp_ne (tgt := 38) DX8_growLeast_19 (by decide) ?_ ?_
      · refine ge_iload_n 2 DX8_growLeast_22 rfl ?_
        refine ge_bipush (v := (6 : Int32)) DX8_growLeast_23 rfl ?_
        refine ge_icmp_ge (tgt := 38) DX8_growLeast_25 (by decide) ?_ ?_
        · refine ge_aload_n 0 DX8_growLeast_28 rfl ?_
          refine ge_getR (i := 290) DX8_growLeast_29 fl_X8_31 is_287 (by decide) rfl ?_
          refine ge_iload_n 2 DX8_growLeast_32 rfl ?_
          refine ge_iload_n 3 DX8_growLeast_33 rfl ?_
          refine ge_iast DX8_growLeast_34 is_290 al_290 (fun m21 => ?_)
          refine ge_iinc 2 (v := (x4 + (1 : Int32))) (ls' := [(2, .int (x4 + (1 : Int32))), (0, .ref (xad X 287)), (1, .int y3), (3, .int x5)]) DX8_growLeast_35 rfl rfl (by decide) rfl ?_
          refine ge_sub [1, 2, 0, 3] rfl ?_
          exact hj38 m21 (x4 + (1 : Int32))
        · exact hj38 m2 x4
      · exact hj38 m2 x4
set_option maxHeartbeats 4000000 in
set_option maxRecDepth 100000 in
theorem okX8_growLeast (l : Launch) (X : Xt) (m0 : Mem) (a1 : Int32) : Ct l yX8_growLeast cX8_growLeast 4 none rmX8_growLeast ιV X [.ref (xad X 287), .int a1] m0 (fX8_growLeast m0 a1) := by
  refine ct_of (own := RX8) (ls := [(0, .ref (xad X 287)), (1, .int a1)]) (by decide) rfl rfl (Nat.le_of_ble_eq_true rfl) (fun K => ?_)
  show gX8_growLeast K X 0 0 0 [(0, .ref (xad X 287)), (1, .int a1)] [] m0 (fX8_growLeast m0 a1)
  delta fX8_growLeast
  refine ge_aload_n 0 DX8_growLeast_0 rfl ?_
  refine ge_callVv0 (st := []) cm_X8_64 DX8_growLeast_1 is_287 rfl (okX8_lookAtForms (kl K) X m0) rfl rfl (Nat.le_of_ble_eq_true rfl) (by decide) ⟨rfl, rfl⟩ ⟨Nat.zero_le _, Nat.zero_le _⟩ (fun m1 => ?_)
  refine ge_iconst (v := (0 : Int32)) DX8_growLeast_4 rfl ?_
  refine ge_istore_n (ls' := [(2, .int (0 : Int32)), (0, .ref (xad X 287)), (1, .int a1)]) DX8_growLeast_5 (by decide) rfl ?_
  refine ge_bipush (v := (11 : Int32)) DX8_growLeast_6 rfl ?_
  refine ge_istore_n (ls' := [(3, .int (11 : Int32)), (2, .int (0 : Int32)), (0, .ref (xad X 287)), (1, .int a1)]) DX8_growLeast_8 (by decide) rfl ?_
  refine ge_sub [2, 3, 1, 0] rfl ?_
  refine lX8_growLeast_L9 K X a1 (fun m8 x9 => ?_) 5000 m1 (0 : Int32) (11 : Int32)
  · refine ge_aload_n 0 DX8_growLeast_44 rfl ?_
    refine ge_iload_n 1 DX8_growLeast_45 rfl ?_
    refine ge_callVv0 (st := []) cm_X8_94 DX8_growLeast_46 is_287 rfl (okX8_fillStates (kl K) X m8 x9) rfl rfl (Nat.le_of_ble_eq_true rfl) (by decide) ⟨rfl, rfl⟩ ⟨Nat.zero_le _, Nat.zero_le _⟩ (fun m10 => ?_)
    refine ge_gets DX8_growLeast_49 sl_X8_98 ?_
    refine ge_iload_n 1 DX8_growLeast_52 rfl ?_
    refine ge_sald (j := 2) DX8_growLeast_53 (by decide) rfl rfl ?_
    refine ge_iconst (v := (1 : Int32)) DX8_growLeast_54 rfl ?_
    refine ge_isub DX8_growLeast_55 ?_
    refine ge_topi (fun x11 => ?_)
    refine ge_istore_n (ls' := [(3, .int x11), (0, .ref (xad X 287)), (2, .int x9)]) DX8_growLeast_56 (by decide) rfl ?_
    refine ge_sub [1, 2, 0] rfl ?_
    refine lX8_growLeast_L57 K X x9 (fun m16 => ?_) 5000 m10 x11
    · refine ge_aload_n 0 DX8_growLeast_73 rfl ?_
      refine ge_aload_n 0 DX8_growLeast_74 rfl ?_
      refine ge_getR (i := 293) DX8_growLeast_75 fl_X8_40 is_287 (by decide) rfl ?_
      refine ge_iconst (v := (0 : Int32)) DX8_growLeast_78 rfl ?_
      refine ge_iald DX8_growLeast_79 is_293 al_293 ?_
      refine ge_put DX8_growLeast_80 fp_X8_18 is_287 (by decide) rfl (fun m17 => ?_)
      exact ge_vret rfl DX8_growLeast_83
abbrev gX9_startAt (K : Kt) (X : Xt) := GE (R := Unit) K rmX9_startAt X cX9_startAt 2 RX9 none (finM K X ιV 0 0)
set_option maxHeartbeats 4000000 in
set_option maxRecDepth 100000 in
theorem okX9_startAt (l : Launch) (X : Xt) (m0 : Mem) (a1 : Int32) : Ct l yX9_startAt cX9_startAt 2 none rmX9_startAt ιV X [.ref (xad X 296), .int a1] m0 (fX9_startAt m0 a1) := by
  refine ct_of (own := RX9) (ls := [(0, .ref (xad X 296)), (1, .int a1)]) (by decide) rfl rfl (Nat.le_of_ble_eq_true rfl) (fun K => ?_)
  show gX9_startAt K X 0 0 0 [(0, .ref (xad X 296)), (1, .int a1)] [] m0 (fX9_startAt m0 a1)
  delta fX9_startAt
  refine ge_aload_n 0 DX9_startAt_0 rfl ?_
  refine ge_iload_n 1 DX9_startAt_1 rfl ?_
  refine ge_bipush (v := (31 : Int32)) DX9_startAt_2 rfl ?_
  refine ge_iand DX9_startAt_4 ?_
  refine ge_put DX9_startAt_5 fp_X9_19 is_296 (by decide) rfl (fun m1 => ?_)
  refine ge_aload_n 0 DX9_startAt_8 rfl ?_
  refine ge_iconst (v := (0 : Int32)) DX9_startAt_9 rfl ?_
  refine ge_put DX9_startAt_10 fp_X9_15 is_296 (by decide) rfl (fun m2 => ?_)
  refine ge_aload_n 0 DX9_startAt_13 rfl ?_
  refine ge_iconst (v := (0 : Int32)) DX9_startAt_14 rfl ?_
  refine ge_put DX9_startAt_15 fp_X9_22 is_296 (by decide) rfl (fun m3 => ?_)
  refine ge_aload_n 0 DX9_startAt_18 rfl ?_
  refine ge_iconst (v := (0 : Int32)) DX9_startAt_19 rfl ?_
  refine ge_put DX9_startAt_20 fp_X9_25 is_296 (by decide) rfl (fun m4 => ?_)
  refine ge_aload_n 0 DX9_startAt_23 rfl ?_
  refine ge_iconst (v := (0 : Int32)) DX9_startAt_24 rfl ?_
  refine ge_put DX9_startAt_25 fp_X9_28 is_296 (by decide) rfl (fun m5 => ?_)
  exact ge_vret rfl DX9_startAt_28
abbrev gX9_keepReturn (K : Kt) (X : Xt) := GE (R := Unit) K rmX9_keepReturn X cX9_keepReturn 2 RX9 none (finM K X ιV 0 0)
set_option maxHeartbeats 4000000 in
set_option maxRecDepth 100000 in
theorem okX9_keepReturn (l : Launch) (X : Xt) (m0 : Mem) (a1 : Int32) : Ct l yX9_keepReturn cX9_keepReturn 2 none rmX9_keepReturn ιV X [.ref (xad X 296), .int a1] m0 (fX9_keepReturn m0 a1) := by
  refine ct_of (own := RX9) (ls := [(0, .ref (xad X 296)), (1, .int a1)]) (by decide) rfl rfl (Nat.le_of_ble_eq_true rfl) (fun K => ?_)
  show gX9_keepReturn K X 0 0 0 [(0, .ref (xad X 296)), (1, .int a1)] [] m0 (fX9_keepReturn m0 a1)
  delta fX9_keepReturn
  refine ge_aload_n 0 DX9_keepReturn_0 rfl ?_
  refine ge_getI DX9_keepReturn_1 fl_X9_15 is_296 (by decide) rfl ?_
  refine ge_iconst (v := (4 : Int32)) DX9_keepReturn_4 rfl ?_
  refine ge_jn (P := fun k => ∀ (m1 : Mem), gX9_keepReturn K X 0 0 35 [(0, .ref (xad X 296)), (1, .int a1)] [] m1 (k m1)) (fun m1 => ?_) (fun j35 hj35 => ?_)
  · refine ge_aload_n 0 DX9_keepReturn_35 rfl ?_
    refine ge_getR (i := 297) DX9_keepReturn_36 fl_X9_9 is_296 (by decide) rfl ?_
    refine ge_aload_n 0 DX9_keepReturn_39 rfl ?_
    refine ge_getI DX9_keepReturn_40 fl_X9_15 is_296 (by decide) rfl ?_
    refine ge_iload_n 1 DX9_keepReturn_43 rfl ?_
    refine ge_iast DX9_keepReturn_44 is_297 al_297 (fun m2 => ?_)
    refine ge_aload_n 0 DX9_keepReturn_45 rfl ?_
    refine ge_dup DX9_keepReturn_46 rfl ?_
    refine ge_getI DX9_keepReturn_47 fl_X9_15 is_296 (by decide) rfl ?_
    refine ge_iconst (v := (1 : Int32)) DX9_keepReturn_50 rfl ?_
    refine ge_iadd DX9_keepReturn_51 ?_
    refine ge_put DX9_keepReturn_52 fp_X9_15 is_296 (by decide) rfl (fun m3 => ?_)
    exact ge_vret rfl DX9_keepReturn_55
  refine ge_icmp_ne (tgt := 35) DX9_keepReturn_5 (by decide) ?_ ?_
  · refine ge_aload_n 0 DX9_keepReturn_8 rfl ?_
    refine ge_dup DX9_keepReturn_9 rfl ?_
    refine ge_getI DX9_keepReturn_10 fl_X9_15 is_296 (by decide) rfl ?_
    refine ge_iconst (v := (1 : Int32)) DX9_keepReturn_13 rfl ?_
    refine ge_isub DX9_keepReturn_14 ?_
    refine ge_put DX9_keepReturn_15 fp_X9_15 is_296 (by decide) rfl (fun m4 => ?_)
    refine ge_aload_n 0 DX9_keepReturn_18 rfl ?_
    refine ge_getR (i := 297) DX9_keepReturn_19 fl_X9_9 is_296 (by decide) rfl ?_
    refine ge_iconst (v := (1 : Int32)) DX9_keepReturn_22 rfl ?_
    refine ge_aload_n 0 DX9_keepReturn_23 rfl ?_
    refine ge_getR (i := 297) DX9_keepReturn_24 fl_X9_9 is_296 (by decide) rfl ?_
    refine ge_iconst (v := (0 : Int32)) DX9_keepReturn_27 rfl ?_
    refine ge_aload_n 0 DX9_keepReturn_28 rfl ?_
    refine ge_getI DX9_keepReturn_29 fl_X9_15 is_296 (by decide) rfl ?_
    refine ge_acopy DX9_keepReturn_32 cp_X9_87 is_297 is_297 al_297 al_297 (by decide) (Nat.le_of_ble_eq_true rfl) (fun m5 => ?_)
    exact hj35 m5
  · exact hj35 m0
abbrev gX9_latestReturn (K : Kt) (X : Xt) := GE (R := Int32) K rmX9_latestReturn X cX9_latestReturn 1 RX9 (some .int) (finM K X ιI 0 0)
set_option maxHeartbeats 4000000 in
set_option maxRecDepth 100000 in
theorem okX9_latestReturn (l : Launch) (X : Xt) (m0 : Mem) : Ct l yX9_latestReturn cX9_latestReturn 1 (some .int) rmX9_latestReturn ιI X [.ref (xad X 296)] m0 (fX9_latestReturn m0) := by
  refine ct_of (own := RX9) (ls := [(0, .ref (xad X 296))]) (by decide) rfl rfl (Nat.le_of_ble_eq_true rfl) (fun K => ?_)
  show gX9_latestReturn K X 0 0 0 [(0, .ref (xad X 296))] [] m0 (fX9_latestReturn m0)
  delta fX9_latestReturn
  refine ge_aload_n 0 DX9_latestReturn_0 rfl ?_
  refine ge_getI DX9_latestReturn_1 fl_X9_15 is_296 (by decide) rfl ?_
  refine ge_if_ne (tgt := 12) DX9_latestReturn_4 (by decide) ?_ ?_
  · refine ge_aload_n 0 DX9_latestReturn_7 rfl ?_
    refine ge_getI DX9_latestReturn_8 fl_X9_19 is_296 (by decide) rfl ?_
    exact ge_iret rfl DX9_latestReturn_11
  · refine ge_aload_n 0 DX9_latestReturn_12 rfl ?_
    refine ge_dup DX9_latestReturn_13 rfl ?_
    refine ge_getI DX9_latestReturn_14 fl_X9_15 is_296 (by decide) rfl ?_
    refine ge_iconst (v := (1 : Int32)) DX9_latestReturn_17 rfl ?_
    refine ge_isub DX9_latestReturn_18 ?_
    refine ge_put DX9_latestReturn_19 fp_X9_15 is_296 (by decide) rfl (fun m1 => ?_)
    refine ge_aload_n 0 DX9_latestReturn_22 rfl ?_
    refine ge_getR (i := 297) DX9_latestReturn_23 fl_X9_9 is_296 (by decide) rfl ?_
    refine ge_aload_n 0 DX9_latestReturn_26 rfl ?_
    refine ge_getI DX9_latestReturn_27 fl_X9_15 is_296 (by decide) rfl ?_
    refine ge_iald DX9_latestReturn_30 is_297 al_297 ?_
    exact ge_iret rfl DX9_latestReturn_31
abbrev gX9_cellBehind (K : Kt) (X : Xt) := GE (R := Int32) K rmX9_cellBehind X cX9_cellBehind 5 RX9 (some .int) (finM K X ιI 0 0)
set_option maxHeartbeats 4000000 in
set_option maxRecDepth 100000 in
theorem okX9_cellBehind (l : Launch) (X : Xt) (m0 : Mem) (a1 : Int32) (a2 : Int32) : Ct l yX9_cellBehind cX9_cellBehind 5 (some .int) rmX9_cellBehind ιI X [.ref (xad X 296), .int a1, .int a2] m0 (fX9_cellBehind m0 a1 a2) := by
  refine ct_of (own := RX9) (ls := [(0, .ref (xad X 296)), (1, .int a1), (2, .int a2)]) (by decide) rfl rfl (Nat.le_of_ble_eq_true rfl) (fun K => ?_)
  show gX9_cellBehind K X 0 0 0 [(0, .ref (xad X 296)), (1, .int a1), (2, .int a2)] [] m0 (fX9_cellBehind m0 a1 a2)
  delta fX9_cellBehind
  refine ge_aload_n 0 DX9_cellBehind_0 rfl ?_
  refine ge_getI DX9_cellBehind_1 fl_X9_19 is_296 (by decide) rfl ?_
  refine ge_iconst (v := (1 : Int32)) DX9_cellBehind_4 rfl ?_
  refine ge_iadd DX9_cellBehind_5 ?_
  refine ge_bipush (v := (31 : Int32)) DX9_cellBehind_6 rfl ?_
  refine ge_iand DX9_cellBehind_8 ?_
  refine ge_topi (fun x1 => ?_)
  refine ge_istore_n (ls' := [(3, .int x1), (0, .ref (xad X 296)), (1, .int a1), (2, .int a2)]) DX9_cellBehind_9 (by decide) rfl ?_
  refine ge_aload_n 1 DX9_cellBehind_10 rfl ?_
  refine ge_getI DX9_cellBehind_11 fl_X9_19 is_296 (by decide) rfl ?_
  refine ge_iload_n 3 DX9_cellBehind_14 rfl ?_
  refine ge_iadd DX9_cellBehind_15 ?_
  refine ge_bipush (v := (31 : Int32)) DX9_cellBehind_16 rfl ?_
  refine ge_iand DX9_cellBehind_18 ?_
  refine ge_topi (fun x2 => ?_)
  refine ge_istore (ls' := [(4, .int x2), (3, .int x1), (0, .ref (xad X 296)), (1, .int a1), (2, .int a2)]) DX9_cellBehind_19 (by decide) rfl ?_
  refine ge_iload_n 3 DX9_cellBehind_21 rfl ?_
  refine ge_ite (fun hx3 => ?_) (fun hx3 => ?_)
  · refine ge_tsw (v := (1 : Int32)) (tgt := 60) DX9_cellBehind_22 hx3 (by decide) (by decide) rfl (by decide) ?_
    refine ge_iload 0 DX9_cellBehind_60 rfl ?_
    exact ge_iret rfl DX9_cellBehind_62
  refine ge_ite (fun hx4 => ?_) (fun hx4 => ?_)
  · refine ge_tsw (v := (2 : Int32)) (tgt := 92) DX9_cellBehind_22 hx4 (by decide) (by decide) rfl (by decide) ?_
    refine ge_iload_n 1 DX9_cellBehind_92 rfl ?_
    exact ge_iret rfl DX9_cellBehind_93
  refine ge_ite (fun hx5 => ?_) (fun hx5 => ?_)
  · refine ge_tsw (v := (3 : Int32)) (tgt := 63) DX9_cellBehind_22 hx5 (by decide) (by decide) rfl (by decide) ?_
    refine ge_aload_n 2 DX9_cellBehind_63 rfl ?_
    refine ge_iload_n 1 DX9_cellBehind_64 rfl ?_
    refine ge_callVv0 (st := []) cm_X9_79 DX9_cellBehind_65 is_296 rfl (okX9_keepReturn (kl K) X m0 x1) rfl rfl (Nat.le_of_ble_eq_true rfl) (by decide) ⟨rfl, rfl⟩ ⟨Nat.zero_le _, Nat.zero_le _⟩ (fun m6 => ?_)
    refine ge_iload 0 DX9_cellBehind_68 rfl ?_
    exact ge_iret rfl DX9_cellBehind_70
  refine ge_ite (fun hx7 => ?_) (fun hx7 => ?_)
  · refine ge_tsw (v := (4 : Int32)) (tgt := 92) DX9_cellBehind_22 hx7 (by decide) (by decide) rfl (by decide) ?_
    refine ge_iload_n 1 DX9_cellBehind_92 rfl ?_
    exact ge_iret rfl DX9_cellBehind_93
  refine ge_ite (fun hx8 => ?_) (fun hx8 => ?_)
  · refine ge_tsw (v := (5 : Int32)) (tgt := 87) DX9_cellBehind_22 hx8 (by decide) (by decide) rfl (by decide) ?_
    refine ge_aload_n 2 DX9_cellBehind_87 rfl ?_
    refine ge_callVi0 (st := []) cm_X9_83 DX9_cellBehind_88 is_296 rfl (okX9_latestReturn (kl K) X m0) rfl rfl (Nat.le_of_ble_eq_true rfl) (by decide) ⟨rfl, rfl⟩ ⟨Nat.zero_le _, Nat.zero_le _⟩ (fun r10 m9 => ?_)
    exact ge_iret rfl DX9_cellBehind_91
  refine ge_ite (fun hx11 => ?_) (fun hx11 => ?_)
  · refine ge_tsw (v := (6 : Int32)) (tgt := 71) DX9_cellBehind_22 hx11 (by decide) (by decide) rfl (by decide) ?_
    refine ge_iload_n 4 DX9_cellBehind_71 rfl ?_
    refine ge_iconst (v := (2 : Int32)) DX9_cellBehind_72 rfl ?_
    refine ge_iremc DX9_cellBehind_73 rfl ?_
    refine ge_if_eq (tgt := 79) DX9_cellBehind_74 (by decide) ?_ ?_
    · refine ge_aload_n 2 DX9_cellBehind_79 rfl ?_
      refine ge_iload_n 1 DX9_cellBehind_80 rfl ?_
      refine ge_callVv0 (st := []) cm_X9_79 DX9_cellBehind_81 is_296 rfl (okX9_keepReturn (kl K) X m0 x1) rfl rfl (Nat.le_of_ble_eq_true rfl) (by decide) ⟨rfl, rfl⟩ ⟨Nat.zero_le _, Nat.zero_le _⟩ (fun m12 => ?_)
      refine ge_iload 0 DX9_cellBehind_84 rfl ?_
      exact ge_iret rfl DX9_cellBehind_86
    · refine ge_iload_n 1 DX9_cellBehind_77 rfl ?_
      exact ge_iret rfl DX9_cellBehind_78
  refine ge_tswd (tgt := 92) DX9_cellBehind_22 (sw_out 1 6 rfl (by decide) (fun i hi => by rcases i with _ | _ | _ | _ | _ | _ | i <;> first | exact absurd hi (by omega) | assumption)) (by decide) ?_
  refine ge_iload_n 1 DX9_cellBehind_92 rfl ?_
  exact ge_iret rfl DX9_cellBehind_93
abbrev gX9_stepOn (K : Kt) (X : Xt) := GE (R := Int32) K rmX9_stepOn X cX9_stepOn 4 RX9 (some .boolean) (finM K X ιI 0 0)
set_option maxHeartbeats 4000000 in
set_option maxRecDepth 100000 in
theorem okX9_stepOn (l : Launch) (X : Xt) (m0 : Mem) : Ct l yX9_stepOn cX9_stepOn 4 (some .boolean) rmX9_stepOn ιI X [.ref (xad X 296)] m0 (fX9_stepOn m0) := by
  refine ct_of (own := RX9) (ls := [(0, .ref (xad X 296))]) (by decide) rfl rfl (Nat.le_of_ble_eq_true rfl) (fun K => ?_)
  show gX9_stepOn K X 0 0 0 [(0, .ref (xad X 296))] [] m0 (fX9_stepOn m0)
  delta fX9_stepOn
  refine ge_aload_n 0 DX9_stepOn_0 rfl ?_
  refine ge_getR (i := 283) DX9_stepOn_1 fl_X9_39 is_296 (by decide) rfl ?_
  refine ge_getR (i := 284) DX9_stepOn_4 fl_X9_43 is_283 (by decide) rfl ?_
  refine ge_aload_n 0 DX9_stepOn_7 rfl ?_
  refine ge_getI DX9_stepOn_8 fl_X9_19 is_296 (by decide) rfl ?_
  refine ge_iald DX9_stepOn_11 is_284 al_284 ?_
  refine ge_topi (fun x1 => ?_)
  refine ge_istore_n (ls' := [(1, .int x1), (0, .ref (xad X 296))]) DX9_stepOn_12 (by decide) rfl ?_
  refine ge_aload_n 1 DX9_stepOn_13 rfl ?_
  refine ge_getR (i := 275) DX9_stepOn_14 fl_X9_35 is_296 (by decide) rfl ?_
  refine ge_iload_n 0 DX9_stepOn_17 rfl ?_
  refine ge_callVi0 (st := []) cm_X9_48 DX9_stepOn_18 is_275 rfl (okX6_meaningOf (kl K) X m0 x1) rfl rfl (Nat.le_of_ble_eq_true rfl) (by decide) ⟨rfl, rfl⟩ ⟨Nat.zero_le _, Nat.zero_le _⟩ (fun r3 m2 => ?_)
  refine ge_istore_n (ls' := [(2, .int r3), (1, .int x1), (0, .ref (xad X 296))]) DX9_stepOn_21 (by decide) rfl ?_
  refine ge_aload_n 2 DX9_stepOn_22 rfl ?_
  refine ge_getR (i := 9) DX9_stepOn_23 fl_X9_31 is_296 (by decide) rfl ?_
  refine ge_iload_n 0 DX9_stepOn_26 rfl ?_
  refine ge_callVi0 (st := []) cm_X9_54 DX9_stepOn_27 is_9 rfl (okX4_has (kl K) X m2 r3) rfl rfl (Nat.le_of_ble_eq_true rfl) (by decide) ⟨rfl, rfl⟩ ⟨Nat.zero_le _, Nat.zero_le _⟩ (fun r5 m4 => ?_)
  refine ge_if_ne (tgt := 35) DX9_stepOn_30 (by decide) ?_ ?_
  · refine ge_iconst (v := (0 : Int32)) DX9_stepOn_33 rfl ?_
    exact ge_zretc rfl rfl DX9_stepOn_34
  · refine ge_aload_n 2 DX9_stepOn_35 rfl ?_
    refine ge_getR (i := 9) DX9_stepOn_36 fl_X9_31 is_296 (by decide) rfl ?_
    refine ge_getR (i := 10) DX9_stepOn_39 fl_X9_60 is_9 (by decide) rfl ?_
    refine ge_iload_n 0 DX9_stepOn_42 rfl ?_
    refine ge_aaldF DX9_stepOn_43 (fun hb6 => ?_)
    refine ge_astore_n (ls' := [(3, .ref (xad X (11 + 22 * ix r3))), (2, .int r3), (1, .int x1), (0, .ref (xad X 296))]) DX9_stepOn_44 (by decide) rfl ?_
    refine ge_aload_n 0 DX9_stepOn_45 rfl ?_
    refine ge_getI DX9_stepOn_46 fl_X9_64 (isF hb6) (by decide) rfl ?_
    refine ge_iconst (v := (5 : Int32)) DX9_stepOn_49 rfl ?_
    refine ge_jn (P := fun k => gX9_stepOn K X 0 0 62 [(0, .ref (xad X 296)), (1, .int x1), (3, .ref (xad X (11 + 22 * ix r3)))] [] m4 k) ?_ (fun j62 hj62 => ?_)
    · refine ge_aload_n 0 DX9_stepOn_62 rfl ?_
      refine ge_dup DX9_stepOn_63 rfl ?_
      refine ge_getI DX9_stepOn_64 fl_X9_28 is_296 (by decide) rfl ?_
      refine ge_iconst (v := (1 : Int32)) DX9_stepOn_67 rfl ?_
      refine ge_aload_n 0 DX9_stepOn_68 rfl ?_
      refine ge_getI DX9_stepOn_69 fl_X9_19 is_296 (by decide) rfl ?_
      refine ge_ishl DX9_stepOn_72 ?_
      refine ge_ior DX9_stepOn_73 ?_
      refine ge_put DX9_stepOn_74 fp_X9_28 is_296 (by decide) rfl (fun m7 => ?_)
      refine ge_aload_n 0 DX9_stepOn_77 rfl ?_
      refine ge_dup DX9_stepOn_78 rfl ?_
      refine ge_getI DX9_stepOn_79 fl_X9_25 is_296 (by decide) rfl ?_
      refine ge_aload_n 2 DX9_stepOn_82 rfl ?_
      refine ge_iload_n 1 DX9_stepOn_83 rfl ?_
      refine ge_callVi0 (st := [.int (m7 296 7), .ref (xad X 296)]) cm_X9_69 DX9_stepOn_84 (isF hb6) rfl (okX3_costOf (kl K) X (11 + 22 * ix r3) (isF hb6) m7 x1) rfl rfl (Nat.le_of_ble_eq_true rfl) (by decide) ⟨rfl, rfl⟩ ⟨Nat.zero_le _, Nat.zero_le _⟩ (fun r9 m8 => ?_)
      refine ge_iadd DX9_stepOn_87 ?_
      refine ge_put DX9_stepOn_88 fp_X9_25 is_296 (by decide) rfl (fun m10 => ?_)
      refine ge_aload_n 0 DX9_stepOn_91 rfl ?_
      refine ge_dup DX9_stepOn_92 rfl ?_
      refine ge_getI DX9_stepOn_93 fl_X9_22 is_296 (by decide) rfl ?_
      refine ge_iconst (v := (1 : Int32)) DX9_stepOn_96 rfl ?_
      refine ge_iadd DX9_stepOn_97 ?_
      refine ge_put DX9_stepOn_98 fp_X9_22 is_296 (by decide) rfl (fun m11 => ?_)
      refine ge_aload_n 0 DX9_stepOn_101 rfl ?_
      refine ge_aload_n 0 DX9_stepOn_102 rfl ?_
      refine ge_aload_n 2 DX9_stepOn_103 rfl ?_
      refine ge_getI DX9_stepOn_104 fl_X9_64 (isF hb6) (by decide) rfl ?_
      refine ge_aload_n 2 DX9_stepOn_107 rfl ?_
      refine ge_iload_n 1 DX9_stepOn_108 rfl ?_
      refine ge_callVi0 (st := [.int (m11 (11 + 22 * ix r3) 0), .ref (xad X 296), .ref (xad X 296)]) cm_X9_72 DX9_stepOn_109 (isF hb6) rfl (okX3_firstIn (kl K) X (11 + 22 * ix r3) (isF hb6) m11 x1) rfl rfl (Nat.le_of_ble_eq_true rfl) (by decide) ⟨rfl, rfl⟩ ⟨Nat.zero_le _, Nat.zero_le _⟩ (fun r13 m12 => ?_)
      refine ge_callVi0 (st := [.ref (xad X 296)]) cm_X9_75 DX9_stepOn_112 is_296 rfl (okX9_cellBehind (kl K) X m12 (m11 (11 + 22 * ix r3) 0) r13) rfl rfl (Nat.le_of_ble_eq_true rfl) (by decide) ⟨rfl, rfl⟩ ⟨Nat.zero_le _, Nat.zero_le _⟩ (fun r15 m14 => ?_)
      refine ge_put DX9_stepOn_115 fp_X9_19 is_296 (by decide) rfl (fun m16 => ?_)
      refine ge_iconst (v := (1 : Int32)) DX9_stepOn_118 rfl ?_
      exact ge_zretc rfl rfl DX9_stepOn_119
    refine ge_icmp_ne (tgt := 62) DX9_stepOn_50 (by decide) ?_ ?_
    · refine ge_aload_n 3 DX9_stepOn_53 rfl ?_
      refine ge_getI DX9_stepOn_54 fl_X9_15 is_296 (by decide) rfl ?_
      refine ge_if_ne (tgt := 62) DX9_stepOn_57 (by decide) ?_ ?_
      · refine ge_iconst (v := (0 : Int32)) DX9_stepOn_60 rfl ?_
        exact ge_zretc rfl rfl DX9_stepOn_61
      · refine ge_sub [3, 2, 0] rfl ?_
        exact hj62
    · refine ge_sub [3, 2, 0] rfl ?_
      exact hj62
abbrev gX10_refuse (K : Kt) (X : Xt) := GE (R := Int32) K rmX10_refuse X cX10_refuse 3 RX10 (some .int) (finM K X ιI 0 0)
set_option maxHeartbeats 4000000 in
set_option maxRecDepth 100000 in
theorem okX10_refuse (l : Launch) (X : Xt) (m0 : Mem) (a1 : Int32) : Ct l yX10_refuse cX10_refuse 3 (some .int) rmX10_refuse ιI X [.ref (xad X 0), .int a1] m0 (fX10_refuse m0 a1) := by
  refine ct_of (own := RX10) (ls := [(0, .ref (xad X 0)), (1, .int a1)]) (by decide) rfl rfl (Nat.le_of_ble_eq_true rfl) (fun K => ?_)
  show gX10_refuse K X 0 0 0 [(0, .ref (xad X 0)), (1, .int a1)] [] m0 (fX10_refuse m0 a1)
  delta fX10_refuse
  refine ge_sipush (v := (-1001 : Int32)) DX10_refuse_0 rfl ?_
  refine ge_iload_n 1 DX10_refuse_3 rfl ?_
  refine ge_isub DX10_refuse_4 ?_
  refine ge_topi (fun x1 => ?_)
  refine ge_istore_n (ls' := [(2, .int x1), (0, .ref (xad X 0)), (1, .int a1)]) DX10_refuse_5 (by decide) rfl ?_
  refine ge_iload_n 0 DX10_refuse_6 rfl ?_
  refine ge_iconst (v := (0 : Int32)) DX10_refuse_7 rfl ?_
  refine ge_iconst (v := (2 : Int32)) DX10_refuse_8 rfl ?_
  refine ge_callSi0 (st := []) cm_X10_99 DX10_refuse_9 (okX10_within (kl K) X m0 x1 (0 : Int32) (2 : Int32)) rfl rfl (Nat.le_of_ble_eq_true rfl) (by decide) ⟨rfl, rfl⟩ ⟨Nat.zero_le _, Nat.zero_le _⟩ (fun r3 m2 => ?_)
  refine ge_if_eq (tgt := 25) DX10_refuse_12 (by decide) ?_ ?_
  · refine ge_iload_n 2 DX10_refuse_25 rfl ?_
    exact ge_iret rfl DX10_refuse_26
  · refine ge_aload_n 1 DX10_refuse_15 rfl ?_
    refine ge_getR (i := 8) DX10_refuse_16 fl_X10_39 is_0 (by decide) rfl ?_
    refine ge_iload_n 0 DX10_refuse_19 rfl ?_
    refine ge_dup2 DX10_refuse_20 rfl rfl ?_
    refine ge_iald DX10_refuse_21 is_8 al_8 ?_
    refine ge_iconst (v := (1 : Int32)) DX10_refuse_22 rfl ?_
    refine ge_iadd DX10_refuse_23 ?_
    refine ge_iast DX10_refuse_24 is_8 al_8 (fun m4 => ?_)
    refine ge_iload_n 2 DX10_refuse_25 rfl ?_
    exact ge_iret rfl DX10_refuse_26
abbrev gX10_feed (K : Kt) (X : Xt) := GE (R := Int32) K rmX10_feed X cX10_feed 5 RX10 (some .int) (finM K X ιI 0 0)
set_option maxHeartbeats 4000000 in
set_option maxRecDepth 100000 in
theorem lX10_feed_L44 (K : Kt) (X : Xt) {k75 : Mem → Option (Int32 × Mem)} (y8 : Int64) (y9 : Int32)  (hk75 : ∀ (m11 : Mem), gX10_feed K X 0 0 75 [(0, .ref (xad X 0))] [] m11 (k75 m11)) :
    ∀ (n : Nat) (m7 : Mem) (x10 : Int32), gX10_feed K X 0 0 44 [(0, .ref (xad X 0)), (1, .long y8), (3, .int y9), (4, .int x10)] [] m7 (fX10_feed_L44 k75 y8 y9 n m7 x10) := by
  intro n
  induction n with
  | zero => intro m7 x10; exact ge_none
  | succ n ih =>
    intro m7 x10
    show gX10_feed K X 0 0 44 [(0, .ref (xad X 0)), (1, .long y8), (3, .int y9), (4, .int x10)] [] m7 (fX10_feed_L44_b k75 y8 y9 (fX10_feed_L44 k75 y8 y9 n) m7 x10)
    delta fX10_feed_L44_b
    refine ge_iload 3 DX10_feed_44 rfl ?_
    refine ge_iload_n 2 DX10_feed_46 rfl ?_
    refine ge_icmp_ge (tgt := 75) DX10_feed_47 (by decide) ?_ ?_
    · refine ge_aload_n 0 DX10_feed_50 rfl ?_
      refine ge_getR (i := 281) DX10_feed_51 fl_X10_59 is_0 (by decide) rfl ?_
      refine ge_lload_n 1 DX10_feed_54 rfl ?_
      refine ge_bipush (v := (8 : Int32)) DX10_feed_55 rfl ?_
      refine ge_iload 3 DX10_feed_57 rfl ?_
      refine ge_imul DX10_feed_59 ?_
      refine ge_lushr DX10_feed_60 ?_
      refine ge_l2i DX10_feed_61 ?_
      refine ge_sipush (v := (255 : Int32)) DX10_feed_62 rfl ?_
      refine ge_iand DX10_feed_65 ?_
      refine ge_callVv0 (st := []) cm_X10_110 DX10_feed_66 is_281 rfl (okX0_add (kl K) X 281 is_281 m7 ((((lushr y8 ((8 : Int32) * x10))).toInt32) &&& (255 : Int32))) rfl rfl (Nat.le_of_ble_eq_true rfl) (by decide) ⟨rfl, rfl⟩ ⟨Nat.zero_le _, Nat.zero_le _⟩ (fun m13 => ?_)
      refine ge_iinc 3 (v := (x10 + (1 : Int32))) (ls' := [(4, .int (x10 + (1 : Int32))), (0, .ref (xad X 0)), (1, .long y8), (3, .int y9)]) DX10_feed_69 rfl rfl (by decide) rfl ?_
      refine ge_goto (tgt := 44) DX10_feed_72 (by decide) ?_
      refine ge_sub [1, 2, 3, 0] rfl ?_
      exact ih m13 (x10 + (1 : Int32))
    · refine ge_sub [0] rfl ?_
      exact hk75 m7
set_option maxHeartbeats 4000000 in
set_option maxRecDepth 100000 in
theorem okX10_feed (l : Launch) (X : Xt) (m0 : Mem) (a1 : Int64) (a3 : Int32) : Ct l yX10_feed cX10_feed 5 (some .int) rmX10_feed ιI X [.ref (xad X 0), .long a1, .int a3] m0 (fX10_feed m0 a1 a3) := by
  refine ct_of (own := RX10) (ls := [(0, .ref (xad X 0)), (1, .long a1), (3, .int a3)]) (by decide) rfl rfl (Nat.le_of_ble_eq_true rfl) (fun K => ?_)
  show gX10_feed K X 0 0 0 [(0, .ref (xad X 0)), (1, .long a1), (3, .int a3)] [] m0 (fX10_feed m0 a1 a3)
  delta fX10_feed
  refine ge_iload_n 2 DX10_feed_0 rfl ?_
  refine ge_iconst (v := (1 : Int32)) DX10_feed_1 rfl ?_
  refine ge_bipush (v := (8 : Int32)) DX10_feed_2 rfl ?_
  refine ge_callSi0 (st := []) cm_X10_99 DX10_feed_4 (okX10_within (kl K) X m0 a3 (1 : Int32) (8 : Int32)) rfl rfl (Nat.le_of_ble_eq_true rfl) (by decide) ⟨rfl, rfl⟩ ⟨Nat.zero_le _, Nat.zero_le _⟩ (fun r2 m1 => ?_)
  refine ge_if_ne (tgt := 18) DX10_feed_7 (by decide) ?_ ?_
  · refine ge_aload_n 0 DX10_feed_10 rfl ?_
    refine ge_sipush (v := (-1001 : Int32)) DX10_feed_11 rfl ?_
    refine ge_callVi0 (st := []) cm_X10_103 DX10_feed_14 is_0 rfl (okX10_refuse (kl K) X m1 (-1001 : Int32)) rfl rfl (Nat.le_of_ble_eq_true rfl) (by decide) ⟨rfl, rfl⟩ ⟨Nat.zero_le _, Nat.zero_le _⟩ (fun r4 m3 => ?_)
    exact ge_iret rfl DX10_feed_17
  · refine ge_iload_n 2 DX10_feed_18 rfl ?_
    refine ge_sipush (v := (200 : Int32)) DX10_feed_19 rfl ?_
    refine ge_aload_n 0 DX10_feed_22 rfl ?_
    refine ge_getR (i := 281) DX10_feed_23 fl_X10_59 is_0 (by decide) rfl ?_
    refine ge_getI DX10_feed_26 fl_X10_107 is_281 (by decide) rfl ?_
    refine ge_isub DX10_feed_29 ?_
    refine ge_icmp_le (tgt := 41) DX10_feed_30 (by decide) ?_ ?_
    · refine ge_aload_n 0 DX10_feed_33 rfl ?_
      refine ge_sipush (v := (-1002 : Int32)) DX10_feed_34 rfl ?_
      refine ge_callVi0 (st := []) cm_X10_103 DX10_feed_37 is_0 rfl (okX10_refuse (kl K) X m1 (-1002 : Int32)) rfl rfl (Nat.le_of_ble_eq_true rfl) (by decide) ⟨rfl, rfl⟩ ⟨Nat.zero_le _, Nat.zero_le _⟩ (fun r6 m5 => ?_)
      exact ge_iret rfl DX10_feed_40
    · refine ge_iconst (v := (0 : Int32)) DX10_feed_41 rfl ?_
      refine ge_istore (ls' := [(4, .int (0 : Int32)), (0, .ref (xad X 0)), (1, .long a1), (3, .int a3)]) DX10_feed_42 (by decide) rfl ?_
      refine ge_sub [1, 2, 3, 0] rfl ?_
      refine lX10_feed_L44 K X a1 a3 (fun m12 => ?_) 5000 m1 (0 : Int32)
      · refine ge_aload_n 0 DX10_feed_75 rfl ?_
        refine ge_getR (i := 281) DX10_feed_76 fl_X10_59 is_0 (by decide) rfl ?_
        refine ge_getI DX10_feed_79 fl_X10_107 is_281 (by decide) rfl ?_
        exact ge_iret rfl DX10_feed_82
abbrev gX10_wipe (K : Kt) (X : Xt) := GE (R := Int32) K rmX10_wipe X cX10_wipe 2 RX10 (some .int) (finM K X ιI 0 0)
set_option maxHeartbeats 4000000 in
set_option maxRecDepth 100000 in
theorem okX10_wipe (l : Launch) (X : Xt) (m0 : Mem) : Ct l yX10_wipe cX10_wipe 2 (some .int) rmX10_wipe ιI X [.ref (xad X 0)] m0 (fX10_wipe m0) := by
  refine ct_of (own := RX10) (ls := [(0, .ref (xad X 0))]) (by decide) rfl rfl (Nat.le_of_ble_eq_true rfl) (fun K => ?_)
  show gX10_wipe K X 0 0 0 [(0, .ref (xad X 0))] [] m0 (fX10_wipe m0)
  delta fX10_wipe
  refine ge_aload_n 0 DX10_wipe_0 rfl ?_
  refine ge_getR (i := 281) DX10_wipe_1 fl_X10_59 is_0 (by decide) rfl ?_
  refine ge_getI DX10_wipe_4 fl_X10_107 is_281 (by decide) rfl ?_
  refine ge_topi (fun x1 => ?_)
  refine ge_istore_n (ls' := [(1, .int x1), (0, .ref (xad X 0))]) DX10_wipe_7 (by decide) rfl ?_
  refine ge_aload_n 1 DX10_wipe_8 rfl ?_
  refine ge_getR (i := 281) DX10_wipe_9 fl_X10_59 is_0 (by decide) rfl ?_
  refine ge_iconst (v := (0 : Int32)) DX10_wipe_12 rfl ?_
  refine ge_put DX10_wipe_13 fp_X10_107 is_281 (by decide) rfl (fun m2 => ?_)
  refine ge_iload_n 0 DX10_wipe_16 rfl ?_
  exact ge_iret rfl DX10_wipe_17
abbrev gX10_text (K : Kt) (X : Xt) := GE (R := Int32) K rmX10_text X cX10_text 2 RX10 (some .int) (finM K X ιI 0 0)
set_option maxHeartbeats 4000000 in
set_option maxRecDepth 100000 in
theorem okX10_text (l : Launch) (X : Xt) (m0 : Mem) : Ct l yX10_text cX10_text 2 (some .int) rmX10_text ιI X [.ref (xad X 0)] m0 (fX10_text m0) := by
  refine ct_of (own := RX10) (ls := [(0, .ref (xad X 0))]) (by decide) rfl rfl (Nat.le_of_ble_eq_true rfl) (fun K => ?_)
  show gX10_text K X 0 0 0 [(0, .ref (xad X 0))] [] m0 (fX10_text m0)
  delta fX10_text
  refine ge_aload_n 0 DX10_text_0 rfl ?_
  refine ge_getR (i := 294) DX10_text_1 fl_X10_77 is_0 (by decide) rfl ?_
  refine ge_callVi0 (st := []) cm_X10_113 DX10_text_4 is_294 rfl (okX7_fault (kl K) X m0) rfl rfl (Nat.le_of_ble_eq_true rfl) (by decide) ⟨rfl, rfl⟩ ⟨Nat.zero_le _, Nat.zero_le _⟩ (fun r2 m1 => ?_)
  refine ge_istore_n (ls' := [(1, .int r2), (0, .ref (xad X 0))]) DX10_text_7 (by decide) rfl ?_
  refine ge_aload_n 1 DX10_text_8 rfl ?_
  refine ge_getR (i := 281) DX10_text_9 fl_X10_59 is_0 (by decide) rfl ?_
  refine ge_iconst (v := (0 : Int32)) DX10_text_12 rfl ?_
  refine ge_put DX10_text_13 fp_X10_107 is_281 (by decide) rfl (fun m3 => ?_)
  refine ge_iload_n 0 DX10_text_16 rfl ?_
  refine ge_iconst (v := (-1 : Int32)) DX10_text_17 rfl ?_
  refine ge_icmp_eq (tgt := 26) DX10_text_18 (by decide) ?_ ?_
  · refine ge_aload_n 1 DX10_text_26 rfl ?_
    refine ge_iconst (v := (0 : Int32)) DX10_text_27 rfl ?_
    refine ge_put DX10_text_28 fp_X10_36 is_0 (by decide) rfl (fun m4 => ?_)
    refine ge_aload_n 1 DX10_text_31 rfl ?_
    refine ge_getR (i := 275) DX10_text_32 fl_X10_55 is_0 (by decide) rfl ?_
    refine ge_callVv0 (st := []) cm_X10_117 DX10_text_35 is_275 rfl (okX6_forget (kl K) X m4) rfl rfl (Nat.le_of_ble_eq_true rfl) (by decide) ⟨rfl, rfl⟩ ⟨Nat.zero_le _, Nat.zero_le _⟩ (fun m5 => ?_)
    refine ge_aload_n 1 DX10_text_38 rfl ?_
    refine ge_getR (i := 9) DX10_text_39 fl_X10_51 is_0 (by decide) rfl ?_
    refine ge_getI DX10_text_42 fl_X10_120 is_9 (by decide) rfl ?_
    exact ge_iret rfl DX10_text_45
  · refine ge_bipush (v := (-10 : Int32)) DX10_text_21 rfl ?_
    refine ge_iload_n 0 DX10_text_23 rfl ?_
    refine ge_isub DX10_text_24 ?_
    exact ge_iret rfl DX10_text_25
abbrev gX10_lettersIn (K : Kt) (X : Xt) := GE (R := Int32) K rmX10_lettersIn X cX10_lettersIn 1 RX10 (some .int) (finM K X ιI 0 0)
set_option maxHeartbeats 4000000 in
set_option maxRecDepth 100000 in
theorem okX10_lettersIn (l : Launch) (X : Xt) (m0 : Mem) (a0 : Int32) : Ct l yX10_lettersIn cX10_lettersIn 1 (some .int) rmX10_lettersIn ιI X [.int a0] m0 (fX10_lettersIn m0 a0) := by
  refine ct_of (own := RX10) (ls := [(0, .int a0)]) (by decide) rfl rfl (Nat.le_of_ble_eq_true rfl) (fun K => ?_)
  show gX10_lettersIn K X 0 0 0 [(0, .int a0)] [] m0 (fX10_lettersIn m0 a0)
  delta fX10_lettersIn
  refine ge_iload_n 0 DX10_lettersIn_0 rfl ?_
  refine ge_ldcw (v := (65536 : Int32)) kw_X10_354 DX10_lettersIn_1 ?_
  refine ge_icmp_lt (tgt := 9) DX10_lettersIn_4 (by decide) ?_ ?_
  · refine ge_iload_n 0 DX10_lettersIn_9 rfl ?_
    refine ge_sipush (v := (256 : Int32)) DX10_lettersIn_10 rfl ?_
    refine ge_icmp_lt (tgt := 20) DX10_lettersIn_13 (by decide) ?_ ?_
    · refine ge_iconst (v := (1 : Int32)) DX10_lettersIn_20 rfl ?_
      exact ge_iret rfl DX10_lettersIn_21
    · refine ge_iconst (v := (2 : Int32)) DX10_lettersIn_16 rfl ?_
      refine ge_goto (tgt := 21) DX10_lettersIn_17 (by decide) ?_
      exact ge_iret rfl DX10_lettersIn_21
  · refine ge_iconst (v := (3 : Int32)) DX10_lettersIn_7 rfl ?_
    exact ge_iret rfl DX10_lettersIn_8
abbrev gX10_formOf (K : Kt) (X : Xt) := GE (R := Int32) K rmX10_formOf X cX10_formOf 4 RX10 (some .int) (finM K X ιI 0 0)
set_option maxHeartbeats 4000000 in
set_option maxRecDepth 100000 in
theorem okX10_formOf (l : Launch) (X : Xt) (m0 : Mem) (a1 : Int32) (a2 : Int32) : Ct l yX10_formOf cX10_formOf 4 (some .int) rmX10_formOf ιI X [.ref (xad X 0), .int a1, .int a2] m0 (fX10_formOf m0 a1 a2) := by
  refine ct_of (own := RX10) (ls := [(0, .ref (xad X 0)), (1, .int a1), (2, .int a2)]) (by decide) rfl rfl (Nat.le_of_ble_eq_true rfl) (fun K => ?_)
  show gX10_formOf K X 0 0 0 [(0, .ref (xad X 0)), (1, .int a1), (2, .int a2)] [] m0 (fX10_formOf m0 a1 a2)
  delta fX10_formOf
  refine ge_aload_n 0 DX10_formOf_0 rfl ?_
  refine ge_getR (i := 9) DX10_formOf_1 fl_X10_51 is_0 (by decide) rfl ?_
  refine ge_iload_n 1 DX10_formOf_4 rfl ?_
  refine ge_callVi0 (st := []) cm_X10_123 DX10_formOf_5 is_9 rfl (okX4_has (kl K) X m0 a1) rfl rfl (Nat.le_of_ble_eq_true rfl) (by decide) ⟨rfl, rfl⟩ ⟨Nat.zero_le _, Nat.zero_le _⟩ (fun r2 m1 => ?_)
  refine ge_if_ne (tgt := 19) DX10_formOf_8 (by decide) ?_ ?_
  · refine ge_aload_n 0 DX10_formOf_11 rfl ?_
    refine ge_sipush (v := (-1001 : Int32)) DX10_formOf_12 rfl ?_
    refine ge_callVi0 (st := []) cm_X10_103 DX10_formOf_15 is_0 rfl (okX10_refuse (kl K) X m1 (-1001 : Int32)) rfl rfl (Nat.le_of_ble_eq_true rfl) (by decide) ⟨rfl, rfl⟩ ⟨Nat.zero_le _, Nat.zero_le _⟩ (fun r4 m3 => ?_)
    exact ge_iret rfl DX10_formOf_18
  · refine ge_aload_n 0 DX10_formOf_19 rfl ?_
    refine ge_getR (i := 9) DX10_formOf_20 fl_X10_51 is_0 (by decide) rfl ?_
    refine ge_getR (i := 10) DX10_formOf_23 fl_X10_127 is_9 (by decide) rfl ?_
    refine ge_iload_n 1 DX10_formOf_26 rfl ?_
    refine ge_aaldF DX10_formOf_27 (fun hb5 => ?_)
    refine ge_astore_n (ls' := [(3, .ref (xad X (11 + 22 * ix a1))), (0, .ref (xad X 0)), (1, .int a1), (2, .int a2)]) DX10_formOf_28 (by decide) rfl ?_
    refine ge_iload_n 3 DX10_formOf_29 rfl ?_
    refine ge_ite (fun hx6 => ?_) (fun hx6 => ?_)
    · refine ge_tsw (v := (0 : Int32)) (tgt := 68) DX10_formOf_30 hx6 (by decide) (by decide) rfl (by decide) ?_
      refine ge_aload_n 0 DX10_formOf_68 rfl ?_
      refine ge_getI DX10_formOf_69 fl_X10_131 (isF hb5) (by decide) rfl ?_
      exact ge_iret rfl DX10_formOf_72
    refine ge_ite (fun hx7 => ?_) (fun hx7 => ?_)
    · refine ge_tsw (v := (1 : Int32)) (tgt := 73) DX10_formOf_30 hx7 (by decide) (by decide) rfl (by decide) ?_
      refine ge_aload_n 0 DX10_formOf_73 rfl ?_
      refine ge_getI DX10_formOf_74 fl_X10_136 (isF hb5) (by decide) rfl ?_
      exact ge_iret rfl DX10_formOf_77
    refine ge_ite (fun hx8 => ?_) (fun hx8 => ?_)
    · refine ge_tsw (v := (2 : Int32)) (tgt := 78) DX10_formOf_30 hx8 (by decide) (by decide) rfl (by decide) ?_
      refine ge_aload_n 0 DX10_formOf_78 rfl ?_
      refine ge_getI DX10_formOf_79 fl_X10_139 (isF hb5) (by decide) rfl ?_
      exact ge_iret rfl DX10_formOf_82
    refine ge_ite (fun hx9 => ?_) (fun hx9 => ?_)
    · refine ge_tsw (v := (3 : Int32)) (tgt := 83) DX10_formOf_30 hx9 (by decide) (by decide) rfl (by decide) ?_
      refine ge_aload_n 0 DX10_formOf_83 rfl ?_
      refine ge_getI DX10_formOf_84 fl_X10_142 (isF hb5) (by decide) rfl ?_
      exact ge_iret rfl DX10_formOf_87
    refine ge_ite (fun hx10 => ?_) (fun hx10 => ?_)
    · refine ge_tsw (v := (4 : Int32)) (tgt := 88) DX10_formOf_30 hx10 (by decide) (by decide) rfl (by decide) ?_
      refine ge_aload_n 0 DX10_formOf_88 rfl ?_
      refine ge_getI DX10_formOf_89 fl_X10_145 (isF hb5) (by decide) rfl ?_
      exact ge_iret rfl DX10_formOf_92
    refine ge_ite (fun hx11 => ?_) (fun hx11 => ?_)
    · refine ge_tsw (v := (5 : Int32)) (tgt := 93) DX10_formOf_30 hx11 (by decide) (by decide) rfl (by decide) ?_
      refine ge_aload_n 0 DX10_formOf_93 rfl ?_
      refine ge_getI DX10_formOf_94 fl_X10_148 (isF hb5) (by decide) rfl ?_
      refine ge_callSi0 (st := []) cm_X10_151 DX10_formOf_97 (okX10_lettersIn (kl K) X m1 (m1 (11 + 22 * ix a1) 1)) rfl rfl (Nat.le_of_ble_eq_true rfl) (by decide) ⟨rfl, rfl⟩ ⟨Nat.zero_le _, Nat.zero_le _⟩ (fun r13 m12 => ?_)
      exact ge_iret rfl DX10_formOf_100
    refine ge_tswd (tgt := 101) DX10_formOf_30 (sw_out 0 6 rfl (by decide) (fun i hi => by rcases i with _ | _ | _ | _ | _ | _ | i <;> first | exact absurd hi (by omega) | assumption)) (by decide) ?_
    refine ge_aload_n 1 DX10_formOf_101 rfl ?_
    refine ge_sipush (v := (-1001 : Int32)) DX10_formOf_102 rfl ?_
    refine ge_callVi0 (st := []) cm_X10_103 DX10_formOf_105 is_0 rfl (okX10_refuse (kl K) X m1 (-1001 : Int32)) rfl rfl (Nat.le_of_ble_eq_true rfl) (by decide) ⟨rfl, rfl⟩ ⟨Nat.zero_le _, Nat.zero_le _⟩ (fun r15 m14 => ?_)
    exact ge_iret rfl DX10_formOf_108
abbrev gX10_withLetter (K : Kt) (X : Xt) := GE (R := Int32) K rmX10_withLetter X cX10_withLetter 2 RX10 (some .int) (finM K X ιI 0 0)
set_option maxHeartbeats 4000000 in
set_option maxRecDepth 100000 in
theorem okX10_withLetter (l : Launch) (X : Xt) (m0 : Mem) (a0 : Int32) (a1 : Int32) : Ct l yX10_withLetter cX10_withLetter 2 (some .int) rmX10_withLetter ιI X [.int a0, .int a1] m0 (fX10_withLetter m0 a0 a1) := by
  refine ct_of (own := RX10) (ls := [(0, .int a0), (1, .int a1)]) (by decide) rfl rfl (Nat.le_of_ble_eq_true rfl) (fun K => ?_)
  show gX10_withLetter K X 0 0 0 [(0, .int a0), (1, .int a1)] [] m0 (fX10_withLetter m0 a0 a1)
  delta fX10_withLetter
  refine ge_iload_n 1 DX10_withLetter_0 rfl ?_
  refine ge_iconst (v := (-1 : Int32)) DX10_withLetter_1 rfl ?_
  refine ge_icmp_ne (tgt := 9) DX10_withLetter_2 (by decide) ?_ ?_
  · refine ge_iload_n 0 DX10_withLetter_5 rfl ?_
    refine ge_goto (tgt := 17) DX10_withLetter_6 (by decide) ?_
    exact ge_iret rfl DX10_withLetter_17
  · refine ge_iload_n 0 DX10_withLetter_9 rfl ?_
    refine ge_bipush (v := (97 : Int32)) DX10_withLetter_10 rfl ?_
    refine ge_iload_n 1 DX10_withLetter_12 rfl ?_
    refine ge_iadd DX10_withLetter_13 ?_
    refine ge_callSi0 (st := []) cm_X10_351 DX10_withLetter_14 (okX10_withSign (kl K) X m0 a0 ((97 : Int32) + a1)) rfl rfl (Nat.le_of_ble_eq_true rfl) (by decide) ⟨rfl, rfl⟩ ⟨Nat.zero_le _, Nat.zero_le _⟩ (fun r2 m1 => ?_)
    exact ge_iret rfl DX10_withLetter_17
abbrev gX10_named (K : Kt) (X : Xt) := GE (R := Int32) K rmX10_named X cX10_named 6 RX10 (some .int) (finM K X ιI 0 0)
set_option maxHeartbeats 4000000 in
set_option maxRecDepth 100000 in
theorem okX10_named (l : Launch) (X : Xt) (m0 : Mem) (a1 : Int32) (a2 : Int32) (a3 : Int32) : Ct l yX10_named cX10_named 6 (some .int) rmX10_named ιI X [.ref (xad X 0), .int a1, .int a2, .int a3] m0 (fX10_named m0 a1 a2 a3) := by
  refine ct_of (own := RX10) (ls := [(0, .ref (xad X 0)), (1, .int a1), (2, .int a2), (3, .int a3)]) (by decide) rfl rfl (Nat.le_of_ble_eq_true rfl) (fun K => ?_)
  show gX10_named K X 0 0 0 [(0, .ref (xad X 0)), (1, .int a1), (2, .int a2), (3, .int a3)] [] m0 (fX10_named m0 a1 a2 a3)
  delta fX10_named
  refine ge_iload_n 1 DX10_named_0 rfl ?_
  refine ge_iconst (v := (0 : Int32)) DX10_named_1 rfl ?_
  refine ge_bipush (v := (25 : Int32)) DX10_named_2 rfl ?_
  refine ge_callSi0 (st := []) cm_X10_99 DX10_named_4 (okX10_within (kl K) X m0 a1 (0 : Int32) (25 : Int32)) rfl rfl (Nat.le_of_ble_eq_true rfl) (by decide) ⟨rfl, rfl⟩ ⟨Nat.zero_le _, Nat.zero_le _⟩ (fun r2 m1 => ?_)
  refine ge_jn (P := fun k => ∀ (m3 : Mem) (v4 : Int32), gX10_named K X 0 0 35 [(0, .ref (xad X 0)), (1, .int a1), (2, .int a2), (3, .int a3)] [.int v4] m3 (k m3 v4)) (fun m3 v4 => ?_) (fun j35 hj35 => ?_)
  · refine ge_istore (ls' := [(4, .int v4), (0, .ref (xad X 0)), (1, .int a1), (2, .int a2), (3, .int a3)]) DX10_named_35 (by decide) rfl ?_
    refine ge_iload 0 DX10_named_37 rfl ?_
    refine ge_jn (P := fun k => gX10_named K X 0 0 52 [(0, .ref (xad X 0))] [] m3 k) ?_ (fun j52 hj52 => ?_)
    · refine ge_aload_n 0 DX10_named_52 rfl ?_
      refine ge_sipush (v := (-1001 : Int32)) DX10_named_53 rfl ?_
      refine ge_callVi0 (st := []) cm_X10_103 DX10_named_56 is_0 rfl (okX10_refuse (kl K) X m3 (-1001 : Int32)) rfl rfl (Nat.le_of_ble_eq_true rfl) (by decide) ⟨rfl, rfl⟩ ⟨Nat.zero_le _, Nat.zero_le _⟩ (fun r6 m5 => ?_)
      exact ge_iret rfl DX10_named_59
    refine ge_if_eq (tgt := 52) DX10_named_39 (by decide) ?_ ?_
    · refine ge_sub [1] rfl ?_
      exact hj52
    · refine ge_iload_n 3 DX10_named_42 rfl ?_
      refine ge_iconst (v := (-1 : Int32)) DX10_named_43 rfl ?_
      refine ge_jn (P := fun k => gX10_named K X 0 0 60 [(0, .ref (xad X 0)), (1, .int a1), (2, .int a2), (3, .int a3)] [] m3 k) ?_ (fun j60 hj60 => ?_)
      · refine ge_iconst (v := (0 : Int32)) DX10_named_60 rfl ?_
        refine ge_iload_n 1 DX10_named_61 rfl ?_
        refine ge_callSi0 (st := []) cm_X10_154 DX10_named_62 (okX10_withLetter (kl K) X m3 (0 : Int32) a1) rfl rfl (Nat.le_of_ble_eq_true rfl) (by decide) ⟨rfl, rfl⟩ ⟨Nat.zero_le _, Nat.zero_le _⟩ (fun r8 m7 => ?_)
        refine ge_iload_n 2 DX10_named_65 rfl ?_
        refine ge_callSi0 (st := []) cm_X10_154 DX10_named_66 (okX10_withLetter (kl K) X m7 r8 a2) rfl rfl (Nat.le_of_ble_eq_true rfl) (by decide) ⟨rfl, rfl⟩ ⟨Nat.zero_le _, Nat.zero_le _⟩ (fun r10 m9 => ?_)
        refine ge_iload_n 3 DX10_named_69 rfl ?_
        refine ge_callSi0 (st := []) cm_X10_154 DX10_named_70 (okX10_withLetter (kl K) X m9 r10 a3) rfl rfl (Nat.le_of_ble_eq_true rfl) (by decide) ⟨rfl, rfl⟩ ⟨Nat.zero_le _, Nat.zero_le _⟩ (fun r12 m11 => ?_)
        refine ge_istore (ls' := [(5, .int r12), (0, .ref (xad X 0)), (1, .int a1), (2, .int a2), (3, .int a3)]) DX10_named_73 (by decide) rfl ?_
        refine ge_aload_n 1 DX10_named_75 rfl ?_
        refine ge_getR (i := 9) DX10_named_76 fl_X10_51 is_0 (by decide) rfl ?_
        refine ge_iload 0 DX10_named_79 rfl ?_
        refine ge_aload_n 1 DX10_named_81 rfl ?_
        refine ge_getR (i := 9) DX10_named_82 fl_X10_51 is_0 (by decide) rfl ?_
        refine ge_getI DX10_named_85 fl_X10_120 is_9 (by decide) rfl ?_
        refine ge_callVi0 (st := []) cm_X10_158 DX10_named_88 is_9 rfl (okX4_find (kl K) X m11 r12 (m11 9 1)) rfl rfl (Nat.le_of_ble_eq_true rfl) (by decide) ⟨rfl, rfl⟩ ⟨Nat.zero_le _, Nat.zero_le _⟩ (fun r14 m13 => ?_)
        exact ge_iret rfl DX10_named_91
      refine ge_icmp_ne (tgt := 60) DX10_named_44 (by decide) ?_ ?_
      · refine ge_iload_n 4 DX10_named_47 rfl ?_
        refine ge_iconst (v := (-1 : Int32)) DX10_named_48 rfl ?_
        refine ge_icmp_eq (tgt := 60) DX10_named_49 (by decide) ?_ ?_
        · refine ge_sub [1, 2, 3, 4] rfl ?_
          exact hj60
        · refine ge_sub [1] rfl ?_
          exact hj52
      · refine ge_sub [1, 2, 3, 4] rfl ?_
        exact hj60
  refine ge_jn (P := fun k => ∀ (m15 : Mem), gX10_named K X 0 0 34 [(0, .ref (xad X 0)), (1, .int a1), (2, .int a2), (3, .int a3)] [] m15 (k m15)) (fun m15 => ?_) (fun j34 hj34 => ?_)
  · refine ge_iconst (v := (0 : Int32)) DX10_named_34 rfl ?_
    exact hj35 m15 (0 : Int32)
  refine ge_if_eq (tgt := 34) DX10_named_7 (by decide) ?_ ?_
  · exact hj34 m1
  · refine ge_iload_n 2 DX10_named_10 rfl ?_
    refine ge_iconst (v := (-1 : Int32)) DX10_named_11 rfl ?_
    refine ge_bipush (v := (25 : Int32)) DX10_named_12 rfl ?_
    refine ge_callSi0 (st := []) cm_X10_99 DX10_named_14 (okX10_within (kl K) X m1 a2 (-1 : Int32) (25 : Int32)) rfl rfl (Nat.le_of_ble_eq_true rfl) (by decide) ⟨rfl, rfl⟩ ⟨Nat.zero_le _, Nat.zero_le _⟩ (fun r17 m16 => ?_)
    refine ge_if_eq (tgt := 34) DX10_named_17 (by decide) ?_ ?_
    · exact hj34 m16
    · refine ge_iload_n 3 DX10_named_20 rfl ?_
      refine ge_iconst (v := (-1 : Int32)) DX10_named_21 rfl ?_
      refine ge_bipush (v := (25 : Int32)) DX10_named_22 rfl ?_
      refine ge_callSi0 (st := []) cm_X10_99 DX10_named_24 (okX10_within (kl K) X m16 a3 (-1 : Int32) (25 : Int32)) rfl rfl (Nat.le_of_ble_eq_true rfl) (by decide) ⟨rfl, rfl⟩ ⟨Nat.zero_le _, Nat.zero_le _⟩ (fun r19 m18 => ?_)
      refine ge_if_eq (tgt := 34) DX10_named_27 (by decide) ?_ ?_
      · exact hj34 m18
      · refine ge_iconst (v := (1 : Int32)) DX10_named_30 rfl ?_
        refine ge_goto (tgt := 35) DX10_named_31 (by decide) ?_
        exact hj35 m18 (1 : Int32)
abbrev gX10_isUnder (K : Kt) (X : Xt) := GE (R := Int32) K rmX10_isUnder X cX10_isUnder 4 RX10 (some .boolean) (finM K X ιI 0 0)
set_option maxHeartbeats 4000000 in
set_option maxRecDepth 100000 in
theorem lX10_isUnder_L4 (K : Kt) (X : Xt) {k36 : Mem → Int32 → Option (Int32 × Mem)} (y2 : Int32)  (hk36 : ∀ (m5 : Mem) (x6 : Int32), gX10_isUnder K X 0 0 36 [(1, .int y2), (2, .int x6)] [] m5 (k36 m5 x6)) :
    ∀ (n : Nat) (m1 : Mem) (x3 : Int32) (x4 : Int32), gX10_isUnder K X 0 0 4 [(1, .int y2), (2, .int x3), (3, .int x4)] [] m1 (fX10_isUnder_L4 k36 y2 n m1 x3 x4) := by
  intro n
  induction n with
  | zero => intro m1 x3 x4; exact ge_none
  | succ n ih =>
    intro m1 x3 x4
    show gX10_isUnder K X 0 0 4 [(1, .int y2), (2, .int x3), (3, .int x4)] [] m1 (fX10_isUnder_L4_b k36 y2 (fX10_isUnder_L4 k36 y2 n) m1 x3 x4)
    delta fX10_isUnder_L4_b
    refine ge_iload_n 2 DX10_isUnder_4 rfl ?_
    refine ge_iconst (v := (3 : Int32)) DX10_isUnder_5 rfl ?_
    refine ge_icmp_ge (tgt := 36) DX10_isUnder_6 (by decide) ?_ ?_
    · refine ge_iload_n 1 DX10_isUnder_9 rfl ?_
      refine ge_iload_n 0 DX10_isUnder_10 rfl ?_
      refine ge_icmp_eq (tgt := 36) DX10_isUnder_11 (by decide) ?_ ?_
      · refine ge_sub [0, 1] rfl ?_
        exact hk36 m1 x3
      · refine ge_iload_n 1 DX10_isUnder_14 rfl ?_
        refine ge_iconst (v := (0 : Int32)) DX10_isUnder_15 rfl ?_
        refine ge_bipush (v := (6 : Int32)) DX10_isUnder_16 rfl ?_
        refine ge_callSi0 (st := []) cm_X10_99 DX10_isUnder_18 (okX10_within (kl K) X m1 x3 (0 : Int32) (6 : Int32)) rfl rfl (Nat.le_of_ble_eq_true rfl) (by decide) ⟨rfl, rfl⟩ ⟨Nat.zero_le _, Nat.zero_le _⟩ (fun r10 m9 => ?_)
        refine ge_if_eq (tgt := 36) DX10_isUnder_21 (by decide) ?_ ?_
        · refine ge_sub [0, 1] rfl ?_
          exact hk36 m9 x3
        · refine ge_gets DX10_isUnder_24 sl_X10_344 ?_
          refine ge_iload_n 1 DX10_isUnder_27 rfl ?_
          refine ge_sald (j := 0) DX10_isUnder_28 (by decide) rfl rfl ?_
          refine ge_topi (fun x11 => ?_)
          refine ge_istore_n (ls' := [(2, .int x11), (1, .int y2), (3, .int x4)]) DX10_isUnder_29 (by decide) rfl ?_
          refine ge_iinc 2 (v := (x4 + (1 : Int32))) (ls' := [(3, .int (x4 + (1 : Int32))), (2, .int x11), (1, .int y2)]) DX10_isUnder_30 rfl rfl (by decide) rfl ?_
          refine ge_goto (tgt := 4) DX10_isUnder_33 (by decide) ?_
          refine ge_sub [2, 1, 0] rfl ?_
          exact ih m9 x11 (x4 + (1 : Int32))
    · refine ge_sub [0, 1] rfl ?_
      exact hk36 m1 x3
set_option maxHeartbeats 4000000 in
set_option maxRecDepth 100000 in
theorem okX10_isUnder (l : Launch) (X : Xt) (m0 : Mem) (a0 : Int32) (a1 : Int32) : Ct l yX10_isUnder cX10_isUnder 4 (some .boolean) rmX10_isUnder ιI X [.int a0, .int a1] m0 (fX10_isUnder m0 a0 a1) := by
  refine ct_of (own := RX10) (ls := [(0, .int a0), (1, .int a1)]) (by decide) rfl rfl (Nat.le_of_ble_eq_true rfl) (fun K => ?_)
  show gX10_isUnder K X 0 0 0 [(0, .int a0), (1, .int a1)] [] m0 (fX10_isUnder m0 a0 a1)
  delta fX10_isUnder
  refine ge_iload_n 0 DX10_isUnder_0 rfl ?_
  refine ge_istore_n (ls' := [(2, .int a0), (0, .int a0), (1, .int a1)]) DX10_isUnder_1 (by decide) rfl ?_
  refine ge_iconst (v := (0 : Int32)) DX10_isUnder_2 rfl ?_
  refine ge_istore_n (ls' := [(3, .int (0 : Int32)), (2, .int a0), (0, .int a0), (1, .int a1)]) DX10_isUnder_3 (by decide) rfl ?_
  refine ge_sub [3, 1, 0] rfl ?_
  refine lX10_isUnder_L4 K X a1 (fun m7 x8 => ?_) 5000 m0 a0 (0 : Int32)
  · refine ge_iload_n 1 DX10_isUnder_36 rfl ?_
    refine ge_iload_n 0 DX10_isUnder_37 rfl ?_
    refine ge_icmp_ne (tgt := 45) DX10_isUnder_38 (by decide) ?_ ?_
    · refine ge_iconst (v := (1 : Int32)) DX10_isUnder_41 rfl ?_
      refine ge_goto (tgt := 46) DX10_isUnder_42 (by decide) ?_
      exact ge_zretc rfl rfl DX10_isUnder_46
    · refine ge_iconst (v := (0 : Int32)) DX10_isUnder_45 rfl ?_
      exact ge_zretc rfl rfl DX10_isUnder_46
abbrev gX10_ofKind (K : Kt) (X : Xt) := GE (R := Int32) K rmX10_ofKind X cX10_ofKind 4 RX10 (some .int) (finM K X ιI 0 0)
set_option maxHeartbeats 4000000 in
set_option maxRecDepth 100000 in
theorem lX10_ofKind_L22 (K : Kt) (X : Xt) {k64 : Mem → Int32 → Option (Int32 × Mem)} (y6 : Int32)  (hk64 : ∀ (m9 : Mem) (x10 : Int32), gX10_ofKind K X 0 0 64 [(2, .int x10)] [] m9 (k64 m9 x10)) :
    ∀ (n : Nat) (m5 : Mem) (x7 : Int32) (x8 : Int32), gX10_ofKind K X 0 0 22 [(0, .ref (xad X 0)), (1, .int y6), (2, .int x7), (3, .int x8)] [] m5 (fX10_ofKind_L22 k64 y6 n m5 x7 x8) := by
  intro n
  induction n with
  | zero => intro m5 x7 x8; exact ge_none
  | succ n ih =>
    intro m5 x7 x8
    show gX10_ofKind K X 0 0 22 [(0, .ref (xad X 0)), (1, .int y6), (2, .int x7), (3, .int x8)] [] m5 (fX10_ofKind_L22_b k64 y6 (fX10_ofKind_L22 k64 y6 n) m5 x7 x8)
    delta fX10_ofKind_L22_b
    refine ge_iload_n 3 DX10_ofKind_22 rfl ?_
    refine ge_aload_n 0 DX10_ofKind_23 rfl ?_
    refine ge_getR (i := 9) DX10_ofKind_24 fl_X10_51 is_0 (by decide) rfl ?_
    refine ge_getI DX10_ofKind_27 fl_X10_120 is_9 (by decide) rfl ?_
    refine ge_icmp_ge (tgt := 64) DX10_ofKind_30 (by decide) ?_ ?_
    · refine ge_aload_n 0 DX10_ofKind_33 rfl ?_
      refine ge_getR (i := 9) DX10_ofKind_34 fl_X10_51 is_0 (by decide) rfl ?_
      refine ge_getR (i := 10) DX10_ofKind_37 fl_X10_127 is_9 (by decide) rfl ?_
      refine ge_iload_n 3 DX10_ofKind_40 rfl ?_
      refine ge_aaldF DX10_ofKind_41 (fun hb13 => ?_)
      refine ge_getI DX10_ofKind_42 fl_X10_131 (isF hb13) (by decide) rfl ?_
      refine ge_iload_n 1 DX10_ofKind_45 rfl ?_
      refine ge_callSi0 (st := []) cm_X10_161 DX10_ofKind_46 (okX10_isUnder (kl K) X m5 (m5 (11 + 22 * ix x8) 0) y6) rfl rfl (Nat.le_of_ble_eq_true rfl) (by decide) ⟨rfl, rfl⟩ ⟨Nat.zero_le _, Nat.zero_le _⟩ (fun r15 m14 => ?_)
      refine ge_jn (P := fun k => ∀ (x16 : Int32), gX10_ofKind K X 0 0 58 [(0, .ref (xad X 0)), (1, .int y6), (2, .int x16), (3, .int x8)] [] m14 (k x16)) (fun x16 => ?_) (fun j58 hj58 => ?_)
      · refine ge_iinc 3 (v := (x8 + (1 : Int32))) (ls' := [(3, .int (x8 + (1 : Int32))), (0, .ref (xad X 0)), (1, .int y6), (2, .int x16)]) DX10_ofKind_58 rfl rfl (by decide) rfl ?_
        refine ge_goto (tgt := 22) DX10_ofKind_61 (by decide) ?_
        refine ge_sub [1, 2, 3, 0] rfl ?_
        exact ih m14 x16 (x8 + (1 : Int32))
      refine ge_if_eq (tgt := 58) DX10_ofKind_49 (by decide) ?_ ?_
      · exact hj58 x7
      · refine ge_iload_n 2 DX10_ofKind_52 rfl ?_
        refine ge_iconst (v := (1 : Int32)) DX10_ofKind_53 rfl ?_
        refine ge_iload_n 3 DX10_ofKind_54 rfl ?_
        refine ge_ishl DX10_ofKind_55 ?_
        refine ge_ior DX10_ofKind_56 ?_
        refine ge_topi (fun x17 => ?_)
        refine ge_istore_n (ls' := [(2, .int x17), (0, .ref (xad X 0)), (1, .int y6), (3, .int x8)]) DX10_ofKind_57 (by decide) rfl ?_
        refine ge_sub [1, 2, 0, 3] rfl ?_
        exact hj58 x17
    · refine ge_sub [2] rfl ?_
      exact hk64 m5 x7
set_option maxHeartbeats 4000000 in
set_option maxRecDepth 100000 in
theorem okX10_ofKind (l : Launch) (X : Xt) (m0 : Mem) (a1 : Int32) : Ct l yX10_ofKind cX10_ofKind 4 (some .int) rmX10_ofKind ιI X [.ref (xad X 0), .int a1] m0 (fX10_ofKind m0 a1) := by
  refine ct_of (own := RX10) (ls := [(0, .ref (xad X 0)), (1, .int a1)]) (by decide) rfl rfl (Nat.le_of_ble_eq_true rfl) (fun K => ?_)
  show gX10_ofKind K X 0 0 0 [(0, .ref (xad X 0)), (1, .int a1)] [] m0 (fX10_ofKind m0 a1)
  delta fX10_ofKind
  refine ge_iload_n 1 DX10_ofKind_0 rfl ?_
  refine ge_iconst (v := (0 : Int32)) DX10_ofKind_1 rfl ?_
  refine ge_bipush (v := (6 : Int32)) DX10_ofKind_2 rfl ?_
  refine ge_callSi0 (st := []) cm_X10_99 DX10_ofKind_4 (okX10_within (kl K) X m0 a1 (0 : Int32) (6 : Int32)) rfl rfl (Nat.le_of_ble_eq_true rfl) (by decide) ⟨rfl, rfl⟩ ⟨Nat.zero_le _, Nat.zero_le _⟩ (fun r2 m1 => ?_)
  refine ge_if_ne (tgt := 18) DX10_ofKind_7 (by decide) ?_ ?_
  · refine ge_aload_n 0 DX10_ofKind_10 rfl ?_
    refine ge_sipush (v := (-1001 : Int32)) DX10_ofKind_11 rfl ?_
    refine ge_callVi0 (st := []) cm_X10_103 DX10_ofKind_14 is_0 rfl (okX10_refuse (kl K) X m1 (-1001 : Int32)) rfl rfl (Nat.le_of_ble_eq_true rfl) (by decide) ⟨rfl, rfl⟩ ⟨Nat.zero_le _, Nat.zero_le _⟩ (fun r4 m3 => ?_)
    exact ge_iret rfl DX10_ofKind_17
  · refine ge_iconst (v := (0 : Int32)) DX10_ofKind_18 rfl ?_
    refine ge_istore_n (ls' := [(2, .int (0 : Int32)), (0, .ref (xad X 0)), (1, .int a1)]) DX10_ofKind_19 (by decide) rfl ?_
    refine ge_iconst (v := (0 : Int32)) DX10_ofKind_20 rfl ?_
    refine ge_istore_n (ls' := [(3, .int (0 : Int32)), (2, .int (0 : Int32)), (0, .ref (xad X 0)), (1, .int a1)]) DX10_ofKind_21 (by decide) rfl ?_
    refine ge_sub [2, 3, 1, 0] rfl ?_
    refine lX10_ofKind_L22 K X a1 (fun m11 x12 => ?_) 5000 m1 (0 : Int32) (0 : Int32)
    · refine ge_iload_n 0 DX10_ofKind_64 rfl ?_
      exact ge_iret rfl DX10_ofKind_65
abbrev gX10_isWord (K : Kt) (X : Xt) := GE (R := Int32) K rmX10_isWord X cX10_isWord 1 RX10 (some .boolean) (finM K X ιI 0 0)
set_option maxHeartbeats 4000000 in
set_option maxRecDepth 100000 in
theorem okX10_isWord (l : Launch) (X : Xt) (m0 : Mem) (a0 : Int32) : Ct l yX10_isWord cX10_isWord 1 (some .boolean) rmX10_isWord ιI X [.int a0] m0 (fX10_isWord m0 a0) := by
  refine ct_of (own := RX10) (ls := [(0, .int a0)]) (by decide) rfl rfl (Nat.le_of_ble_eq_true rfl) (fun K => ?_)
  show gX10_isWord K X 0 0 0 [(0, .int a0)] [] m0 (fX10_isWord m0 a0)
  delta fX10_isWord
  refine ge_iload_n 0 DX10_isWord_0 rfl ?_
  refine ge_iconst (v := (0 : Int32)) DX10_isWord_1 rfl ?_
  refine ge_sipush (v := (4095 : Int32)) DX10_isWord_2 rfl ?_
  refine ge_callSi0 (st := []) cm_X10_99 DX10_isWord_5 (okX10_within (kl K) X m0 a0 (0 : Int32) (4095 : Int32)) rfl rfl (Nat.le_of_ble_eq_true rfl) (by decide) ⟨rfl, rfl⟩ ⟨Nat.zero_le _, Nat.zero_le _⟩ (fun r2 m1 => ?_)
  exact ge_zret rfl DX10_isWord_8
abbrev gX10_means (K : Kt) (X : Xt) := GE (R := Int32) K rmX10_means X cX10_means 3 RX10 (some .int) (finM K X ιI 0 0)
set_option maxHeartbeats 4000000 in
set_option maxRecDepth 100000 in
theorem okX10_means (l : Launch) (X : Xt) (m0 : Mem) (a1 : Int32) : Ct l yX10_means cX10_means 3 (some .int) rmX10_means ιI X [.ref (xad X 0), .int a1] m0 (fX10_means m0 a1) := by
  refine ct_of (own := RX10) (ls := [(0, .ref (xad X 0)), (1, .int a1)]) (by decide) rfl rfl (Nat.le_of_ble_eq_true rfl) (fun K => ?_)
  show gX10_means K X 0 0 0 [(0, .ref (xad X 0)), (1, .int a1)] [] m0 (fX10_means m0 a1)
  delta fX10_means
  refine ge_iload_n 1 DX10_means_0 rfl ?_
  refine ge_callSi0 (st := []) cm_X10_165 DX10_means_1 (okX10_isWord (kl K) X m0 a1) rfl rfl (Nat.le_of_ble_eq_true rfl) (by decide) ⟨rfl, rfl⟩ ⟨Nat.zero_le _, Nat.zero_le _⟩ (fun r2 m1 => ?_)
  refine ge_if_ne (tgt := 15) DX10_means_4 (by decide) ?_ ?_
  · refine ge_aload_n 0 DX10_means_7 rfl ?_
    refine ge_sipush (v := (-1001 : Int32)) DX10_means_8 rfl ?_
    refine ge_callVi0 (st := []) cm_X10_103 DX10_means_11 is_0 rfl (okX10_refuse (kl K) X m1 (-1001 : Int32)) rfl rfl (Nat.le_of_ble_eq_true rfl) (by decide) ⟨rfl, rfl⟩ ⟨Nat.zero_le _, Nat.zero_le _⟩ (fun r4 m3 => ?_)
    exact ge_iret rfl DX10_means_14
  · refine ge_aload_n 0 DX10_means_15 rfl ?_
    refine ge_getR (i := 275) DX10_means_16 fl_X10_55 is_0 (by decide) rfl ?_
    refine ge_iload_n 1 DX10_means_19 rfl ?_
    refine ge_callVi0 (st := []) cm_X10_168 DX10_means_20 is_275 rfl (okX6_meaningOf (kl K) X m1 a1) rfl rfl (Nat.le_of_ble_eq_true rfl) (by decide) ⟨rfl, rfl⟩ ⟨Nat.zero_le _, Nat.zero_le _⟩ (fun r6 m5 => ?_)
    refine ge_istore_n (ls' := [(2, .int r6), (0, .ref (xad X 0)), (1, .int a1)]) DX10_means_23 (by decide) rfl ?_
    refine ge_iload_n 0 DX10_means_24 rfl ?_
    refine ge_bipush (v := (12 : Int32)) DX10_means_25 rfl ?_
    refine ge_icmp_ne (tgt := 32) DX10_means_27 (by decide) ?_ ?_
    · refine ge_iconst (v := (-1 : Int32)) DX10_means_30 rfl ?_
      exact ge_iret rfl DX10_means_31
    · refine ge_iload_n 0 DX10_means_32 rfl ?_
      refine ge_bipush (v := (13 : Int32)) DX10_means_33 rfl ?_
      refine ge_icmp_ne (tgt := 43) DX10_means_35 (by decide) ?_ ?_
      · refine ge_bipush (v := (-2 : Int32)) DX10_means_38 rfl ?_
        refine ge_goto (tgt := 44) DX10_means_40 (by decide) ?_
        exact ge_iret rfl DX10_means_44
      · refine ge_iload_n 0 DX10_means_43 rfl ?_
        exact ge_iret rfl DX10_means_44
abbrev gX10_fits (K : Kt) (X : Xt) := GE (R := Int32) K rmX10_fits X cX10_fits 2 RX10 (some .int) (finM K X ιI 0 0)
set_option maxHeartbeats 4000000 in
set_option maxRecDepth 100000 in
theorem okX10_fits (l : Launch) (X : Xt) (m0 : Mem) (a1 : Int32) : Ct l yX10_fits cX10_fits 2 (some .int) rmX10_fits ιI X [.ref (xad X 0), .int a1] m0 (fX10_fits m0 a1) := by
  refine ct_of (own := RX10) (ls := [(0, .ref (xad X 0)), (1, .int a1)]) (by decide) rfl rfl (Nat.le_of_ble_eq_true rfl) (fun K => ?_)
  show gX10_fits K X 0 0 0 [(0, .ref (xad X 0)), (1, .int a1)] [] m0 (fX10_fits m0 a1)
  delta fX10_fits
  refine ge_iload_n 1 DX10_fits_0 rfl ?_
  refine ge_callSi0 (st := []) cm_X10_165 DX10_fits_1 (okX10_isWord (kl K) X m0 a1) rfl rfl (Nat.le_of_ble_eq_true rfl) (by decide) ⟨rfl, rfl⟩ ⟨Nat.zero_le _, Nat.zero_le _⟩ (fun r2 m1 => ?_)
  refine ge_if_eq (tgt := 18) DX10_fits_4 (by decide) ?_ ?_
  · refine ge_aload_n 0 DX10_fits_18 rfl ?_
    refine ge_sipush (v := (-1001 : Int32)) DX10_fits_19 rfl ?_
    refine ge_callVi0 (st := []) cm_X10_103 DX10_fits_22 is_0 rfl (okX10_refuse (kl K) X m1 (-1001 : Int32)) rfl rfl (Nat.le_of_ble_eq_true rfl) (by decide) ⟨rfl, rfl⟩ ⟨Nat.zero_le _, Nat.zero_le _⟩ (fun r4 m3 => ?_)
    exact ge_iret rfl DX10_fits_25
  · refine ge_aload_n 0 DX10_fits_7 rfl ?_
    refine ge_getR (i := 275) DX10_fits_8 fl_X10_55 is_0 (by decide) rfl ?_
    refine ge_iload_n 1 DX10_fits_11 rfl ?_
    refine ge_callVi0 (st := []) cm_X10_171 DX10_fits_12 is_275 rfl (okX6_fittingOf (kl K) X m1 a1) rfl rfl (Nat.le_of_ble_eq_true rfl) (by decide) ⟨rfl, rfl⟩ ⟨Nat.zero_le _, Nat.zero_le _⟩ (fun r6 m5 => ?_)
    refine ge_goto (tgt := 25) DX10_fits_15 (by decide) ?_
    exact ge_iret rfl DX10_fits_25
abbrev gX10_over (K : Kt) (X : Xt) := GE (R := Int32) K rmX10_over X cX10_over 3 RX10 (some .int) (finM K X ιI 0 0)
set_option maxHeartbeats 4000000 in
set_option maxRecDepth 100000 in
theorem okX10_over (l : Launch) (X : Xt) (m0 : Mem) (a1 : Int32) (a2 : Int32) : Ct l yX10_over cX10_over 3 (some .int) rmX10_over ιI X [.ref (xad X 0), .int a1, .int a2] m0 (fX10_over m0 a1 a2) := by
  refine ct_of (own := RX10) (ls := [(0, .ref (xad X 0)), (1, .int a1), (2, .int a2)]) (by decide) rfl rfl (Nat.le_of_ble_eq_true rfl) (fun K => ?_)
  show gX10_over K X 0 0 0 [(0, .ref (xad X 0)), (1, .int a1), (2, .int a2)] [] m0 (fX10_over m0 a1 a2)
  delta fX10_over
  refine ge_aload_n 0 DX10_over_0 rfl ?_
  refine ge_getR (i := 9) DX10_over_1 fl_X10_51 is_0 (by decide) rfl ?_
  refine ge_iload_n 1 DX10_over_4 rfl ?_
  refine ge_callVi0 (st := []) cm_X10_123 DX10_over_5 is_9 rfl (okX4_has (kl K) X m0 a1) rfl rfl (Nat.le_of_ble_eq_true rfl) (by decide) ⟨rfl, rfl⟩ ⟨Nat.zero_le _, Nat.zero_le _⟩ (fun r2 m1 => ?_)
  refine ge_jn (P := fun k => ∀ (m3 : Mem), gX10_over K X 0 0 27 [(0, .ref (xad X 0))] [] m3 (k m3)) (fun m3 => ?_) (fun j27 hj27 => ?_)
  · refine ge_aload_n 0 DX10_over_27 rfl ?_
    refine ge_sipush (v := (-1001 : Int32)) DX10_over_28 rfl ?_
    refine ge_callVi0 (st := []) cm_X10_103 DX10_over_31 is_0 rfl (okX10_refuse (kl K) X m3 (-1001 : Int32)) rfl rfl (Nat.le_of_ble_eq_true rfl) (by decide) ⟨rfl, rfl⟩ ⟨Nat.zero_le _, Nat.zero_le _⟩ (fun r5 m4 => ?_)
    exact ge_iret rfl DX10_over_34
  refine ge_if_eq (tgt := 27) DX10_over_8 (by decide) ?_ ?_
  · refine ge_sub [0] rfl ?_
    exact hj27 m1
  · refine ge_aload_n 0 DX10_over_11 rfl ?_
    refine ge_getR (i := 9) DX10_over_12 fl_X10_51 is_0 (by decide) rfl ?_
    refine ge_iload_n 2 DX10_over_15 rfl ?_
    refine ge_callVi0 (st := []) cm_X10_123 DX10_over_16 is_9 rfl (okX4_has (kl K) X m1 a2) rfl rfl (Nat.le_of_ble_eq_true rfl) (by decide) ⟨rfl, rfl⟩ ⟨Nat.zero_le _, Nat.zero_le _⟩ (fun r7 m6 => ?_)
    refine ge_if_eq (tgt := 27) DX10_over_19 (by decide) ?_ ?_
    · refine ge_sub [0] rfl ?_
      exact hj27 m6
    · refine ge_iload_n 1 DX10_over_22 rfl ?_
      refine ge_iload_n 2 DX10_over_23 rfl ?_
      refine ge_icmp_ne (tgt := 35) DX10_over_24 (by decide) ?_ ?_
      · refine ge_sub [0] rfl ?_
        exact hj27 m6
      · refine ge_aload_n 0 DX10_over_35 rfl ?_
        refine ge_getR (i := 9) DX10_over_36 fl_X10_51 is_0 (by decide) rfl ?_
        refine ge_getR (i := 10) DX10_over_39 fl_X10_127 is_9 (by decide) rfl ?_
        refine ge_iload_n 1 DX10_over_42 rfl ?_
        refine ge_aaldF DX10_over_43 (fun hb8 => ?_)
        refine ge_aload_n 0 DX10_over_44 rfl ?_
        refine ge_getR (i := 9) DX10_over_45 fl_X10_51 is_0 (by decide) rfl ?_
        refine ge_getR (i := 10) DX10_over_48 fl_X10_127 is_9 (by decide) rfl ?_
        refine ge_iload_n 2 DX10_over_51 rfl ?_
        refine ge_aaldF DX10_over_52 (fun hb9 => ?_)
        refine ge_callVi0 (st := []) cm_X10_174 DX10_over_53 (isF hb8) rfl (okX3_isOver (kl K) X (11 + 22 * ix a1) (isF hb8) m6 (11 + 22 * ix a2) (isF hb9)) rfl rfl (Nat.le_of_ble_eq_true rfl) (by decide) ⟨rfl, rfl⟩ ⟨Nat.zero_le _, Nat.zero_le _⟩ (fun r11 m10 => ?_)
        refine ge_if_eq (tgt := 63) DX10_over_56 (by decide) ?_ ?_
        · refine ge_iconst (v := (0 : Int32)) DX10_over_63 rfl ?_
          exact ge_iret rfl DX10_over_64
        · refine ge_iconst (v := (1 : Int32)) DX10_over_59 rfl ?_
          refine ge_goto (tgt := 64) DX10_over_60 (by decide) ?_
          exact ge_iret rfl DX10_over_64
abbrev gX10_isMeaning (K : Kt) (X : Xt) := GE (R := Int32) K rmX10_isMeaning X cX10_isMeaning 2 RX10 (some .boolean) (finM K X ιI 0 0)
set_option maxHeartbeats 4000000 in
set_option maxRecDepth 100000 in
theorem okX10_isMeaning (l : Launch) (X : Xt) (m0 : Mem) (a1 : Int32) : Ct l yX10_isMeaning cX10_isMeaning 2 (some .boolean) rmX10_isMeaning ιI X [.ref (xad X 0), .int a1] m0 (fX10_isMeaning m0 a1) := by
  refine ct_of (own := RX10) (ls := [(0, .ref (xad X 0)), (1, .int a1)]) (by decide) rfl rfl (Nat.le_of_ble_eq_true rfl) (fun K => ?_)
  show gX10_isMeaning K X 0 0 0 [(0, .ref (xad X 0)), (1, .int a1)] [] m0 (fX10_isMeaning m0 a1)
  delta fX10_isMeaning
  refine ge_aload_n 0 DX10_isMeaning_0 rfl ?_
  refine ge_getR (i := 9) DX10_isMeaning_1 fl_X10_51 is_0 (by decide) rfl ?_
  refine ge_iload_n 1 DX10_isMeaning_4 rfl ?_
  refine ge_callVi0 (st := []) cm_X10_123 DX10_isMeaning_5 is_9 rfl (okX4_has (kl K) X m0 a1) rfl rfl (Nat.le_of_ble_eq_true rfl) (by decide) ⟨rfl, rfl⟩ ⟨Nat.zero_le _, Nat.zero_le _⟩ (fun r2 m1 => ?_)
  refine ge_jn (P := fun k => gX10_isMeaning K X 0 0 23 [] [] m1 k) ?_ (fun j23 hj23 => ?_)
  · refine ge_iconst (v := (1 : Int32)) DX10_isMeaning_23 rfl ?_
    refine ge_goto (tgt := 28) DX10_isMeaning_24 (by decide) ?_
    exact ge_zretc rfl rfl DX10_isMeaning_28
  refine ge_if_ne (tgt := 23) DX10_isMeaning_8 (by decide) ?_ ?_
  · refine ge_iload_n 1 DX10_isMeaning_11 rfl ?_
    refine ge_bipush (v := (12 : Int32)) DX10_isMeaning_12 rfl ?_
    refine ge_icmp_eq (tgt := 23) DX10_isMeaning_14 (by decide) ?_ ?_
    · refine ge_sub [] rfl ?_
      exact hj23
    · refine ge_iload_n 1 DX10_isMeaning_17 rfl ?_
      refine ge_bipush (v := (13 : Int32)) DX10_isMeaning_18 rfl ?_
      refine ge_icmp_ne (tgt := 27) DX10_isMeaning_20 (by decide) ?_ ?_
      · refine ge_sub [] rfl ?_
        exact hj23
      · refine ge_iconst (v := (0 : Int32)) DX10_isMeaning_27 rfl ?_
        exact ge_zretc rfl rfl DX10_isMeaning_28
  · refine ge_sub [] rfl ?_
    exact hj23
abbrev gX10_many (K : Kt) (X : Xt) := GE (R := Int32) K rmX10_many X cX10_many 2 RX10 (some .int) (finM K X ιI 0 0)
set_option maxHeartbeats 4000000 in
set_option maxRecDepth 100000 in
theorem okX10_many (l : Launch) (X : Xt) (m0 : Mem) (a1 : Int32) : Ct l yX10_many cX10_many 2 (some .int) rmX10_many ιI X [.ref (xad X 0), .int a1] m0 (fX10_many m0 a1) := by
  refine ct_of (own := RX10) (ls := [(0, .ref (xad X 0)), (1, .int a1)]) (by decide) rfl rfl (Nat.le_of_ble_eq_true rfl) (fun K => ?_)
  show gX10_many K X 0 0 0 [(0, .ref (xad X 0)), (1, .int a1)] [] m0 (fX10_many m0 a1)
  delta fX10_many
  refine ge_aload_n 0 DX10_many_0 rfl ?_
  refine ge_iload_n 1 DX10_many_1 rfl ?_
  refine ge_callVi0 (st := []) cm_X10_178 DX10_many_2 is_0 rfl (okX10_isMeaning (kl K) X m0 a1) rfl rfl (Nat.le_of_ble_eq_true rfl) (by decide) ⟨rfl, rfl⟩ ⟨Nat.zero_le _, Nat.zero_le _⟩ (fun r2 m1 => ?_)
  refine ge_if_ne (tgt := 16) DX10_many_5 (by decide) ?_ ?_
  · refine ge_aload_n 0 DX10_many_8 rfl ?_
    refine ge_sipush (v := (-1001 : Int32)) DX10_many_9 rfl ?_
    refine ge_callVi0 (st := []) cm_X10_103 DX10_many_12 is_0 rfl (okX10_refuse (kl K) X m1 (-1001 : Int32)) rfl rfl (Nat.le_of_ble_eq_true rfl) (by decide) ⟨rfl, rfl⟩ ⟨Nat.zero_le _, Nat.zero_le _⟩ (fun r4 m3 => ?_)
    exact ge_iret rfl DX10_many_15
  · refine ge_aload_n 0 DX10_many_16 rfl ?_
    refine ge_getR (i := 275) DX10_many_17 fl_X10_55 is_0 (by decide) rfl ?_
    refine ge_callVv0 (st := []) cm_X10_181 DX10_many_20 is_275 rfl (okX6_goThrough (kl K) X m1) rfl rfl (Nat.le_of_ble_eq_true rfl) (by decide) ⟨rfl, rfl⟩ ⟨Nat.zero_le _, Nat.zero_le _⟩ (fun m5 => ?_)
    refine ge_aload_n 0 DX10_many_23 rfl ?_
    refine ge_getR (i := 275) DX10_many_24 fl_X10_55 is_0 (by decide) rfl ?_
    refine ge_getR (i := 278) DX10_many_27 fl_X10_184 is_275 (by decide) rfl ?_
    refine ge_iload_n 1 DX10_many_30 rfl ?_
    refine ge_iald DX10_many_31 is_278 al_278 ?_
    exact ge_iret rfl DX10_many_32
abbrev gX10_covers (K : Kt) (X : Xt) := GE (R := Int64) K rmX10_covers X cX10_covers 6 RX10 (some .long) (finM K X ιL 0 0)
set_option maxHeartbeats 4000000 in
set_option maxRecDepth 100000 in
theorem lX10_covers_L28 (K : Kt) (X : Xt) {k66 : Mem → Int64 → Option (Int64 × Mem)} (y6 : Int32) (y7 : Int32)  (hk66 : ∀ (m10 : Mem) (x11 : Int64), gX10_covers K X 0 0 66 [(3, .long x11)] [] m10 (k66 m10 x11)) :
    ∀ (n : Nat) (m5 : Mem) (x8 : Int64) (x9 : Int32), gX10_covers K X 0 0 28 [(0, .ref (xad X 0)), (1, .int y6), (2, .int y7), (3, .long x8), (5, .int x9)] [] m5 (fX10_covers_L28 k66 y6 y7 n m5 x8 x9) := by
  intro n
  induction n with
  | zero => intro m5 x8 x9; exact ge_none
  | succ n ih =>
    intro m5 x8 x9
    show gX10_covers K X 0 0 28 [(0, .ref (xad X 0)), (1, .int y6), (2, .int y7), (3, .long x8), (5, .int x9)] [] m5 (fX10_covers_L28_b k66 y6 y7 (fX10_covers_L28 k66 y6 y7 n) m5 x8 x9)
    delta fX10_covers_L28_b
    refine ge_iload 4 DX10_covers_28 rfl ?_
    refine ge_bipush (v := (64 : Int32)) DX10_covers_30 rfl ?_
    refine ge_icmp_ge (tgt := 66) DX10_covers_32 (by decide) ?_ ?_
    · refine ge_aload_n 0 DX10_covers_35 rfl ?_
      refine ge_getR (i := 275) DX10_covers_36 fl_X10_55 is_0 (by decide) rfl ?_
      refine ge_bipush (v := (64 : Int32)) DX10_covers_39 rfl ?_
      refine ge_iload_n 2 DX10_covers_41 rfl ?_
      refine ge_imul DX10_covers_42 ?_
      refine ge_iload 4 DX10_covers_43 rfl ?_
      refine ge_iadd DX10_covers_45 ?_
      refine ge_callVi0 (st := []) cm_X10_168 DX10_covers_46 is_275 rfl (okX6_meaningOf (kl K) X m5 (((64 : Int32) * y7) + x9)) rfl rfl (Nat.le_of_ble_eq_true rfl) (by decide) ⟨rfl, rfl⟩ ⟨Nat.zero_le _, Nat.zero_le _⟩ (fun r15 m14 => ?_)
      refine ge_iload_n 1 DX10_covers_49 rfl ?_
      refine ge_jn (P := fun k => ∀ (x16 : Int64), gX10_covers K X 0 0 60 [(0, .ref (xad X 0)), (1, .int y6), (2, .int y7), (3, .long x16), (5, .int x9)] [] m14 (k x16)) (fun x16 => ?_) (fun j60 hj60 => ?_)
      · refine ge_iinc 4 (v := (x9 + (1 : Int32))) (ls' := [(5, .int (x9 + (1 : Int32))), (0, .ref (xad X 0)), (1, .int y6), (2, .int y7), (3, .long x16)]) DX10_covers_60 rfl rfl (by decide) rfl ?_
        refine ge_goto (tgt := 28) DX10_covers_63 (by decide) ?_
        refine ge_sub [1, 2, 3, 4, 0] rfl ?_
        exact ih m14 x16 (x9 + (1 : Int32))
      refine ge_icmp_ne (tgt := 60) DX10_covers_50 (by decide) ?_ ?_
      · refine ge_lload_n 3 DX10_covers_53 rfl ?_
        refine ge_lconst (v := (1 : Int64)) DX10_covers_54 rfl ?_
        refine ge_iload 4 DX10_covers_55 rfl ?_
        refine ge_lshl DX10_covers_57 ?_
        refine ge_lor DX10_covers_58 ?_
        refine ge_topl (fun x17 => ?_)
        refine ge_lstore_n (ls' := [(3, .long x17), (0, .ref (xad X 0)), (1, .int y6), (2, .int y7), (5, .int x9)]) DX10_covers_59 (by decide) rfl ?_
        refine ge_sub [1, 2, 3, 0, 4] rfl ?_
        exact hj60 x17
      · exact hj60 x8
    · refine ge_sub [3] rfl ?_
      exact hk66 m5 x8
set_option maxHeartbeats 4000000 in
set_option maxRecDepth 100000 in
theorem okX10_covers (l : Launch) (X : Xt) (m0 : Mem) (a1 : Int32) (a2 : Int32) : Ct l yX10_covers cX10_covers 6 (some .long) rmX10_covers ιL X [.ref (xad X 0), .int a1, .int a2] m0 (fX10_covers m0 a1 a2) := by
  refine ct_of (own := RX10) (ls := [(0, .ref (xad X 0)), (1, .int a1), (2, .int a2)]) (by decide) rfl rfl (Nat.le_of_ble_eq_true rfl) (fun K => ?_)
  show gX10_covers K X 0 0 0 [(0, .ref (xad X 0)), (1, .int a1), (2, .int a2)] [] m0 (fX10_covers m0 a1 a2)
  delta fX10_covers
  refine ge_aload_n 0 DX10_covers_0 rfl ?_
  refine ge_getR (i := 9) DX10_covers_1 fl_X10_51 is_0 (by decide) rfl ?_
  refine ge_iload_n 1 DX10_covers_4 rfl ?_
  refine ge_callVi0 (st := []) cm_X10_123 DX10_covers_5 is_9 rfl (okX4_has (kl K) X m0 a1) rfl rfl (Nat.le_of_ble_eq_true rfl) (by decide) ⟨rfl, rfl⟩ ⟨Nat.zero_le _, Nat.zero_le _⟩ (fun r2 m1 => ?_)
  refine ge_if_eq (tgt := 21) DX10_covers_8 (by decide) ?_ ?_
  · refine ge_lconst (v := (0 : Int64)) DX10_covers_21 rfl ?_
    exact ge_lret rfl DX10_covers_22
  · refine ge_iload_n 2 DX10_covers_11 rfl ?_
    refine ge_iconst (v := (0 : Int32)) DX10_covers_12 rfl ?_
    refine ge_bipush (v := (63 : Int32)) DX10_covers_13 rfl ?_
    refine ge_callSi0 (st := []) cm_X10_99 DX10_covers_15 (okX10_within (kl K) X m1 a2 (0 : Int32) (63 : Int32)) rfl rfl (Nat.le_of_ble_eq_true rfl) (by decide) ⟨rfl, rfl⟩ ⟨Nat.zero_le _, Nat.zero_le _⟩ (fun r4 m3 => ?_)
    refine ge_if_ne (tgt := 23) DX10_covers_18 (by decide) ?_ ?_
    · refine ge_lconst (v := (0 : Int64)) DX10_covers_21 rfl ?_
      exact ge_lret rfl DX10_covers_22
    · refine ge_lconst (v := (0 : Int64)) DX10_covers_23 rfl ?_
      refine ge_lstore_n (ls' := [(3, .long (0 : Int64)), (0, .ref (xad X 0)), (1, .int a1), (2, .int a2)]) DX10_covers_24 (by decide) rfl ?_
      refine ge_iconst (v := (0 : Int32)) DX10_covers_25 rfl ?_
      refine ge_istore (ls' := [(5, .int (0 : Int32)), (3, .long (0 : Int64)), (0, .ref (xad X 0)), (1, .int a1), (2, .int a2)]) DX10_covers_26 (by decide) rfl ?_
      refine ge_sub [2, 3, 4, 1, 0] rfl ?_
      refine lX10_covers_L28 K X a1 a2 (fun m12 x13 => ?_) 5000 m3 (0 : Int64) (0 : Int32)
      · refine ge_lload_n 0 DX10_covers_66 rfl ?_
        exact ge_lret rfl DX10_covers_67
abbrev gX10_next (K : Kt) (X : Xt) := GE (R := Int32) K rmX10_next X cX10_next 4 RX10 (some .int) (finM K X ιI 0 0)
set_option maxHeartbeats 4000000 in
set_option maxRecDepth 100000 in
theorem lX10_next_L31 (K : Kt) (X : Xt) {k50 : Mem → Int32 → Option (Int32 × Mem)} {k58 : Mem → Option (Int32 × Mem)} (y10 : Int32)  (hk50 : ∀ (m12 : Mem) (x13 : Int32), gX10_next K X 0 0 50 [(3, .int x13)] [] m12 (k50 m12 x13)) (hk58 : ∀ (m16 : Mem), gX10_next K X 0 0 58 [] [] m16 (k58 m16)) :
    ∀ (n : Nat) (m9 : Mem) (x11 : Int32), gX10_next K X 0 0 31 [(0, .ref (xad X 0)), (1, .int y10), (3, .int x11)] [] m9 (fX10_next_L31 k50 k58 y10 n m9 x11) := by
  intro n
  induction n with
  | zero => intro m9 x11; exact ge_none
  | succ n ih =>
    intro m9 x11
    show gX10_next K X 0 0 31 [(0, .ref (xad X 0)), (1, .int y10), (3, .int x11)] [] m9 (fX10_next_L31_b k50 k58 y10 (fX10_next_L31 k50 k58 y10 n) m9 x11)
    delta fX10_next_L31_b
    refine ge_iload_n 2 DX10_next_31 rfl ?_
    refine ge_sipush (v := (4096 : Int32)) DX10_next_32 rfl ?_
    refine ge_icmp_ge (tgt := 58) DX10_next_35 (by decide) ?_ ?_
    · refine ge_aload_n 0 DX10_next_38 rfl ?_
      refine ge_getR (i := 275) DX10_next_39 fl_X10_55 is_0 (by decide) rfl ?_
      refine ge_iload_n 2 DX10_next_42 rfl ?_
      refine ge_callVi0 (st := []) cm_X10_168 DX10_next_43 is_275 rfl (okX6_meaningOf (kl K) X m9 x11) rfl rfl (Nat.le_of_ble_eq_true rfl) (by decide) ⟨rfl, rfl⟩ ⟨Nat.zero_le _, Nat.zero_le _⟩ (fun r19 m18 => ?_)
      refine ge_iload_n 1 DX10_next_46 rfl ?_
      refine ge_icmp_ne (tgt := 52) DX10_next_47 (by decide) ?_ ?_
      · refine ge_sub [2] rfl ?_
        exact hk50 m18 x11
      · refine ge_iinc 2 (v := (x11 + (1 : Int32))) (ls' := [(3, .int (x11 + (1 : Int32))), (0, .ref (xad X 0)), (1, .int y10)]) DX10_next_52 rfl rfl (by decide) rfl ?_
        refine ge_goto (tgt := 31) DX10_next_55 (by decide) ?_
        refine ge_sub [1, 2, 0] rfl ?_
        exact ih m18 (x11 + (1 : Int32))
    · refine ge_sub [] rfl ?_
      exact hk58 m9
set_option maxHeartbeats 4000000 in
set_option maxRecDepth 100000 in
theorem okX10_next (l : Launch) (X : Xt) (m0 : Mem) (a1 : Int32) (a2 : Int32) : Ct l yX10_next cX10_next 4 (some .int) rmX10_next ιI X [.ref (xad X 0), .int a1, .int a2] m0 (fX10_next m0 a1 a2) := by
  refine ct_of (own := RX10) (ls := [(0, .ref (xad X 0)), (1, .int a1), (2, .int a2)]) (by decide) rfl rfl (Nat.le_of_ble_eq_true rfl) (fun K => ?_)
  show gX10_next K X 0 0 0 [(0, .ref (xad X 0)), (1, .int a1), (2, .int a2)] [] m0 (fX10_next m0 a1 a2)
  delta fX10_next
  refine ge_aload_n 0 DX10_next_0 rfl ?_
  refine ge_iload_n 1 DX10_next_1 rfl ?_
  refine ge_callVi0 (st := []) cm_X10_178 DX10_next_2 is_0 rfl (okX10_isMeaning (kl K) X m0 a1) rfl rfl (Nat.le_of_ble_eq_true rfl) (by decide) ⟨rfl, rfl⟩ ⟨Nat.zero_le _, Nat.zero_le _⟩ (fun r2 m1 => ?_)
  refine ge_jn (P := fun k => ∀ (m3 : Mem), gX10_next K X 0 0 19 [(0, .ref (xad X 0))] [] m3 (k m3)) (fun m3 => ?_) (fun j19 hj19 => ?_)
  · refine ge_aload_n 0 DX10_next_19 rfl ?_
    refine ge_sipush (v := (-1001 : Int32)) DX10_next_20 rfl ?_
    refine ge_callVi0 (st := []) cm_X10_103 DX10_next_23 is_0 rfl (okX10_refuse (kl K) X m3 (-1001 : Int32)) rfl rfl (Nat.le_of_ble_eq_true rfl) (by decide) ⟨rfl, rfl⟩ ⟨Nat.zero_le _, Nat.zero_le _⟩ (fun r5 m4 => ?_)
    exact ge_iret rfl DX10_next_26
  refine ge_if_eq (tgt := 19) DX10_next_5 (by decide) ?_ ?_
  · refine ge_sub [0] rfl ?_
    exact hj19 m1
  · refine ge_iload_n 2 DX10_next_8 rfl ?_
    refine ge_iconst (v := (-1 : Int32)) DX10_next_9 rfl ?_
    refine ge_sipush (v := (4095 : Int32)) DX10_next_10 rfl ?_
    refine ge_callSi0 (st := []) cm_X10_99 DX10_next_13 (okX10_within (kl K) X m1 a2 (-1 : Int32) (4095 : Int32)) rfl rfl (Nat.le_of_ble_eq_true rfl) (by decide) ⟨rfl, rfl⟩ ⟨Nat.zero_le _, Nat.zero_le _⟩ (fun r7 m6 => ?_)
    refine ge_if_ne (tgt := 27) DX10_next_16 (by decide) ?_ ?_
    · refine ge_sub [0] rfl ?_
      exact hj19 m6
    · refine ge_iload_n 2 DX10_next_27 rfl ?_
      refine ge_iconst (v := (1 : Int32)) DX10_next_28 rfl ?_
      refine ge_iadd DX10_next_29 ?_
      refine ge_topi (fun x8 => ?_)
      refine ge_istore_n (ls' := [(3, .int x8), (0, .ref (xad X 0)), (1, .int a1), (2, .int a2)]) DX10_next_30 (by decide) rfl ?_
      refine ge_sub [1, 2, 0] rfl ?_
      refine lX10_next_L31 K X a1 (fun m14 x15 => ?_) (fun m17 => ?_) 5000 m6 x8
      · refine ge_iload_n 0 DX10_next_50 rfl ?_
        exact ge_iret rfl DX10_next_51
      · refine ge_iconst (v := (-1 : Int32)) DX10_next_58 rfl ?_
        exact ge_iret rfl DX10_next_59
