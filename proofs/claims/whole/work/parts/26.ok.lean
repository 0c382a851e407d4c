abbrev gX11_looks (X0 : Xt) (K : Kt) (X : Xt) := GE (R := Unit) K rmX11_looks X cX11_looks 6 RX11 none (finM K X0 ιV 1 12)
set_option maxHeartbeats 4000000 in
set_option maxRecDepth 100000 in
theorem lX11_looks_L165 (K : Kt) (X : Xt) (X0 : Xt) (hn : 385 < xn X) (hret : ∀ (pc nx : Nat) (ls : List (Nat × Value)) (σ : Mem), Dc cX11_looks pc .return_ 1 nx → gX11_looks X0 K X 1 12 pc ls [] σ (some ((), σ))) {k217 : Mem → Option (Unit × Mem)} (y21 : Int32) (y22 : Int32)  (hk217 : ∀ (m24 : Mem), gX11_looks X0 K X 1 12 217 [(0, .ref (xad X 362)), (2, .ref (xad X 385)), (3, .int y21)] [] m24 (k217 m24)) :
    ∀ (n : Nat) (m20 : Mem) (x23 : Int32), gX11_looks X0 K X 1 12 165 [(0, .ref (xad X 362)), (2, .ref (xad X 385)), (3, .int y21), (4, .int y22), (5, .int x23)] [] m20 (fX11_looks_L165  k217 y21 y22 n m20 x23) := by
  intro n
  induction n with
  | zero => intro m20 x23; exact ge_none
  | succ n ih =>
    intro m20 x23
    show gX11_looks X0 K X 1 12 165 [(0, .ref (xad X 362)), (2, .ref (xad X 385)), (3, .int y21), (4, .int y22), (5, .int x23)] [] m20 (fX11_looks_L165_b  k217 y21 y22 (fX11_looks_L165  k217 y21 y22 n) m20 x23)
    delta fX11_looks_L165_b
    refine ge_iload 4 DX11_looks_165 rfl ?_
    refine ge_aload_n 0 DX11_looks_167 rfl ?_
    refine ge_getI DX11_looks_168 fl_X11_76 is_362 (by decide) rfl ?_
    refine ge_icmp_ge (tgt := 217) DX11_looks_171 (by decide) ?_ ?_
    · refine ge_aload_n 1 DX11_looks_174 rfl ?_
      refine ge_iload 4 DX11_looks_175 rfl ?_
      refine ge_iald5 hn DX11_looks_177 ?_
      refine ge_iconst (v := (1 : Int32)) DX11_looks_178 rfl ?_
      refine ge_iload 4 DX11_looks_179 rfl ?_
      refine ge_ishl DX11_looks_181 ?_
      refine ge_ior DX11_looks_182 ?_
      refine ge_topi (fun x26 => ?_)
      refine ge_istore_n (ls' := [(1, .int x26), (0, .ref (xad X 362)), (2, .ref (xad X 385)), (3, .int y21), (4, .int y22), (5, .int x23)]) DX11_looks_183 (by decide) rfl ?_
      refine ge_iload 4 DX11_looks_184 rfl ?_
      refine ge_iload 5 DX11_looks_186 rfl ?_
      refine ge_callSi0 (st := []) cm_X11_100 DX11_looks_188 (okX11_has (kl K) X m20 y22 x23) rfl rfl (Nat.le_of_ble_eq_true rfl) (by decide) ⟨rfl, rfl⟩ ⟨by decide, by decide⟩ (fun r28 m27 => ?_)
      refine ge_jn (P := fun k => ∀ (m29 : Mem), gX11_looks X0 K X 1 12 211 [(0, .ref (xad X 362)), (2, .ref (xad X 385)), (3, .int y21), (4, .int y22), (5, .int x23)] [] m29 (k m29)) (fun m29 => ?_) (fun j211 hj211 => ?_)
      · refine ge_iinc 4 (v := (x23 + (1 : Int32))) (ls' := [(5, .int (x23 + (1 : Int32))), (0, .ref (xad X 362)), (2, .ref (xad X 385)), (3, .int y21), (4, .int y22)]) DX11_looks_211 rfl rfl (by decide) rfl ?_
        refine ge_goto (tgt := 165) DX11_looks_214 (by decide) ?_
        refine ge_sub [1, 2, 3, 4, 0] rfl ?_
        exact ih m29 (x23 + (1 : Int32))
      refine ge_if_eq (tgt := 211) DX11_looks_191 (by decide) ?_ ?_
      · refine ge_sub [1, 2, 3, 4, 5] rfl ?_
        exact hj211 m27
      · refine ge_iload 4 DX11_looks_194 rfl ?_
        refine ge_iload_n 0 DX11_looks_196 rfl ?_
        refine ge_iconst (v := (-1 : Int32)) DX11_looks_197 rfl ?_
        refine ge_ixor DX11_looks_198 ?_
        refine ge_iand DX11_looks_199 ?_
        refine ge_if_ne (tgt := 211) DX11_looks_200 (by decide) ?_ ?_
        · refine ge_aload_n 1 DX11_looks_203 rfl ?_
          refine ge_getR (i := 372) DX11_looks_204 fl_X11_37 is_362 (by decide) rfl ?_
          refine ge_iload_n 3 DX11_looks_207 rfl ?_
          refine ge_iload 5 DX11_looks_208 rfl ?_
          refine ge_iast DX11_looks_210 is_372 al_372 (fun m30 => ?_)
          refine ge_sub [1, 2, 3, 4, 5] rfl ?_
          exact hj211 m30
        · refine ge_sub [1, 2, 3, 4, 5] rfl ?_
          exact hj211 m27
    · refine ge_sub [0, 1, 2] rfl ?_
      exact hk217 m20
set_option maxHeartbeats 4000000 in
set_option maxRecDepth 100000 in
theorem lX11_looks_L99 (K : Kt) (X : Xt) (X0 : Xt) (hn : 385 < xn X) (hret : ∀ (pc nx : Nat) (ls : List (Nat × Value)) (σ : Mem), Dc cX11_looks pc .return_ 1 nx → gX11_looks X0 K X 1 12 pc ls [] σ (some ((), σ))) {k137 : Mem → Int32 → Option (Unit × Mem)} (y10 : Int32)  (hk137 : ∀ (m13 : Mem) (x14 : Int32), gX11_looks X0 K X 1 12 137 [(0, .ref (xad X 362)), (2, .ref (xad X 385)), (3, .int y10), (4, .int x14)] [] m13 (k137 m13 x14)) :
    ∀ (n : Nat) (m9 : Mem) (x11 : Int32) (x12 : Int32), gX11_looks X0 K X 1 12 99 [(0, .ref (xad X 362)), (2, .ref (xad X 385)), (3, .int y10), (4, .int x11), (5, .int x12)] [] m9 (fX11_looks_L99  k137 y10 n m9 x11 x12) := by
  intro n
  induction n with
  | zero => intro m9 x11 x12; exact ge_none
  | succ n ih =>
    intro m9 x11 x12
    show gX11_looks X0 K X 1 12 99 [(0, .ref (xad X 362)), (2, .ref (xad X 385)), (3, .int y10), (4, .int x11), (5, .int x12)] [] m9 (fX11_looks_L99_b  k137 y10 (fX11_looks_L99  k137 y10 n) m9 x11 x12)
    delta fX11_looks_L99_b
    refine ge_iload 4 DX11_looks_99 rfl ?_
    refine ge_aload_n 0 DX11_looks_101 rfl ?_
    refine ge_getI DX11_looks_102 fl_X11_76 is_362 (by decide) rfl ?_
    refine ge_icmp_ge (tgt := 137) DX11_looks_105 (by decide) ?_ ?_
    · refine ge_iload 3 DX11_looks_108 rfl ?_
      refine ge_aload_n 0 DX11_looks_110 rfl ?_
      refine ge_iload 4 DX11_looks_111 rfl ?_
      refine ge_iload_n 2 DX11_looks_113 rfl ?_
      refine ge_callVi0 (st := [.int x11]) cm_X11_137 DX11_looks_114 is_362 rfl (okX11_fitsWord (kl K) X m9 x12 y10) rfl rfl (Nat.le_of_ble_eq_true rfl) (by decide) ⟨rfl, rfl⟩ ⟨by decide, by decide⟩ (fun r32 m31 => ?_)
      refine ge_jn (P := fun k => ∀ (v33 : Int32), gX11_looks X0 K X 1 12 128 [(0, .ref (xad X 362)), (2, .ref (xad X 385)), (3, .int y10), (5, .int x12)] [.int v33, .int x11] m31 (k v33)) (fun v33 => ?_) (fun j128 hj128 => ?_)
      · refine ge_ior DX11_looks_128 ?_
        refine ge_topi (fun x34 => ?_)
        refine ge_istore (ls' := [(4, .int x34), (0, .ref (xad X 362)), (2, .ref (xad X 385)), (3, .int y10), (5, .int x12)]) DX11_looks_129 (by decide) rfl ?_
        refine ge_iinc 4 (v := (x12 + (1 : Int32))) (ls' := [(5, .int (x12 + (1 : Int32))), (4, .int x34), (0, .ref (xad X 362)), (2, .ref (xad X 385)), (3, .int y10)]) DX11_looks_131 rfl rfl (by decide) rfl ?_
        refine ge_goto (tgt := 99) DX11_looks_134 (by decide) ?_
        refine ge_sub [2, 3, 4, 1, 0] rfl ?_
        exact ih m31 x34 (x12 + (1 : Int32))
      refine ge_if_eq (tgt := 127) DX11_looks_117 (by decide) ?_ ?_
      · refine ge_iconst (v := (0 : Int32)) DX11_looks_127 rfl ?_
        refine ge_sub [0, 1, 2, 4] rfl ?_
        exact hj128 (0 : Int32)
      · refine ge_iconst (v := (1 : Int32)) DX11_looks_120 rfl ?_
        refine ge_iload 4 DX11_looks_121 rfl ?_
        refine ge_ishl DX11_looks_123 ?_
        refine ge_goto (tgt := 128) DX11_looks_124 (by decide) ?_
        refine ge_sub [0, 1, 2, 4] rfl ?_
        exact hj128 ((1 : Int32) <<< (x12 &&& 31))
    · refine ge_sub [0, 1, 2, 3] rfl ?_
      exact hk137 m9 x11
set_option maxHeartbeats 4000000 in
set_option maxRecDepth 100000 in
theorem lX11_looks_L86 (K : Kt) (X : Xt) (X0 : Xt) (hn : 385 < xn X) (hret : ∀ (pc nx : Nat) (ls : List (Nat × Value)) (σ : Mem), Dc cX11_looks pc .return_ 1 nx → gX11_looks X0 K X 1 12 pc ls [] σ (some ((), σ))) {k223 : Mem → Option (Unit × Mem)}   (hk223 : ∀ (m7 : Mem), gX11_looks X0 K X 1 12 223 [] [] m7 (k223 m7)) :
    ∀ (n : Nat) (m5 : Mem) (x6 : Int32), gX11_looks X0 K X 1 12 86 [(0, .ref (xad X 362)), (2, .ref (xad X 385)), (3, .int x6)] [] m5 (fX11_looks_L86  k223  n m5 x6) := by
  intro n
  induction n with
  | zero => intro m5 x6; exact ge_none
  | succ n ih =>
    intro m5 x6
    show gX11_looks X0 K X 1 12 86 [(0, .ref (xad X 362)), (2, .ref (xad X 385)), (3, .int x6)] [] m5 (fX11_looks_L86_b  k223  (fX11_looks_L86  k223  n) m5 x6)
    delta fX11_looks_L86_b
    refine ge_iload_n 2 DX11_looks_86 rfl ?_
    refine ge_sipush (v := (4096 : Int32)) DX11_looks_87 rfl ?_
    refine ge_icmp_ge (tgt := 223) DX11_looks_90 (by decide) ?_ ?_
    · refine ge_iconst (v := (0 : Int32)) DX11_looks_93 rfl ?_
      refine ge_istore (ls' := [(4, .int (0 : Int32)), (0, .ref (xad X 362)), (2, .ref (xad X 385)), (3, .int x6)]) DX11_looks_94 (by decide) rfl ?_
      refine ge_iconst (v := (0 : Int32)) DX11_looks_96 rfl ?_
      refine ge_istore (ls' := [(5, .int (0 : Int32)), (4, .int (0 : Int32)), (0, .ref (xad X 362)), (2, .ref (xad X 385)), (3, .int x6)]) DX11_looks_97 (by decide) rfl ?_
      refine ge_sub [2, 3, 4, 1, 0] rfl ?_
      refine lX11_looks_L99 K X X0 hn hret x6 (fun m15 x16 => ?_) 5000 m5 (0 : Int32) (0 : Int32)
      · refine ge_aload_n 0 DX11_looks_137 rfl ?_
        refine ge_getR (i := 371) DX11_looks_138 fl_X11_34 is_362 (by decide) rfl ?_
        refine ge_iload_n 2 DX11_looks_141 rfl ?_
        refine ge_iload 3 DX11_looks_142 rfl ?_
        refine ge_iast DX11_looks_144 is_371 al_371 (fun m17 => ?_)
        refine ge_aload_n 0 DX11_looks_145 rfl ?_
        refine ge_getR (i := 372) DX11_looks_146 fl_X11_37 is_362 (by decide) rfl ?_
        refine ge_iload_n 2 DX11_looks_149 rfl ?_
        refine ge_iload 3 DX11_looks_150 rfl ?_
        refine ge_jn (P := fun k => ∀ (v18 : Int32), gX11_looks X0 K X 1 12 161 [(0, .ref (xad X 362)), (2, .ref (xad X 385)), (3, .int x6), (4, .int x16)] [.int v18, .int x6, .ref (xad X 372)] m17 (k v18)) (fun v18 => ?_) (fun j161 hj161 => ?_)
        · refine ge_iast DX11_looks_161 is_372 al_372 (fun m19 => ?_)
          refine ge_iconst (v := (0 : Int32)) DX11_looks_162 rfl ?_
          refine ge_istore (ls' := [(5, .int (0 : Int32)), (0, .ref (xad X 362)), (2, .ref (xad X 385)), (3, .int x6), (4, .int x16)]) DX11_looks_163 (by decide) rfl ?_
          refine ge_sub [1, 2, 3, 4, 0] rfl ?_
          refine lX11_looks_L165 K X X0 hn hret x6 x16 (fun m25 => ?_) 5000 m19 (0 : Int32)
          · refine ge_iinc 2 (v := (x6 + (1 : Int32))) (ls' := [(3, .int (x6 + (1 : Int32))), (0, .ref (xad X 362)), (2, .ref (xad X 385))]) DX11_looks_217 rfl rfl (by decide) rfl ?_
            refine ge_goto (tgt := 86) DX11_looks_220 (by decide) ?_
            refine ge_sub [1, 2, 0] rfl ?_
            exact ih m25 (x6 + (1 : Int32))
        refine ge_if_ne (tgt := 159) DX11_looks_152 (by decide) ?_ ?_
        · refine ge_iconst (v := (-1 : Int32)) DX11_looks_155 rfl ?_
          refine ge_goto (tgt := 161) DX11_looks_156 (by decide) ?_
          exact hj161 (-1 : Int32)
        · refine ge_bipush (v := (-2 : Int32)) DX11_looks_159 rfl ?_
          exact hj161 (-2 : Int32)
    · refine ge_sub [] rfl ?_
      exact hk223 m5
set_option maxHeartbeats 4000000 in
set_option maxRecDepth 100000 in
theorem lX11_looks_L33 (K : Kt) (X : Xt) (X0 : Xt) (hn : 385 < xn X) (hret : ∀ (pc nx : Nat) (ls : List (Nat × Value)) (σ : Mem), Dc cX11_looks pc .return_ 1 nx → gX11_looks X0 K X 1 12 pc ls [] σ (some ((), σ))) {k78 : Mem → Option (Unit × Mem)} (y36 : Int32)  (hk78 : ∀ (m38 : Mem), gX11_looks X0 K X 1 12 78 [(0, .ref (xad X 362)), (2, .ref (xad X 385)), (3, .int y36)] [] m38 (k78 m38)) :
    ∀ (n : Nat) (m35 : Mem) (x37 : Int32), gX11_looks X0 K X 1 12 33 [(0, .ref (xad X 362)), (2, .ref (xad X 385)), (3, .int y36), (4, .int x37)] [] m35 (fX11_looks_L33  k78 y36 n m35 x37) := by
  intro n
  induction n with
  | zero => intro m35 x37; exact ge_none
  | succ n ih =>
    intro m35 x37
    show gX11_looks X0 K X 1 12 33 [(0, .ref (xad X 362)), (2, .ref (xad X 385)), (3, .int y36), (4, .int x37)] [] m35 (fX11_looks_L33_b  k78 y36 (fX11_looks_L33  k78 y36 n) m35 x37)
    delta fX11_looks_L33_b
    refine ge_iload 3 DX11_looks_33 rfl ?_
    refine ge_aload_n 0 DX11_looks_35 rfl ?_
    refine ge_getI DX11_looks_36 fl_X11_76 is_362 (by decide) rfl ?_
    refine ge_icmp_ge (tgt := 78) DX11_looks_39 (by decide) ?_ ?_
    · refine ge_aload_n 1 DX11_looks_42 rfl ?_
      refine ge_iload_n 2 DX11_looks_43 rfl ?_
      refine ge_dup2 DX11_looks_44 rfl rfl ?_
      refine ge_iald5 hn DX11_looks_45 ?_
      refine ge_iload 3 DX11_looks_46 rfl ?_
      refine ge_iload_n 2 DX11_looks_48 rfl ?_
      refine ge_jn (P := fun k => ∀ (m40 : Mem) (v41 : Int32), gX11_looks X0 K X 1 12 70 [(0, .ref (xad X 362)), (2, .ref (xad X 385)), (3, .int y36), (4, .int x37)] [.int v41, .int (m35 385 (ix y36)), .int y36, .ref (xad X 385)] m40 (k m40 v41)) (fun m40 v41 => ?_) (fun j70 hj70 => ?_)
      · refine ge_ior DX11_looks_70 ?_
        refine ge_iast5 hn DX11_looks_71 (fun m42 => ?_)
        refine ge_iinc 3 (v := (x37 + (1 : Int32))) (ls' := [(4, .int (x37 + (1 : Int32))), (0, .ref (xad X 362)), (2, .ref (xad X 385)), (3, .int y36)]) DX11_looks_72 rfl rfl (by decide) rfl ?_
        refine ge_goto (tgt := 33) DX11_looks_75 (by decide) ?_
        refine ge_sub [1, 2, 3, 0] rfl ?_
        exact ih m42 (x37 + (1 : Int32))
      refine ge_jn (P := fun k => ∀ (m43 : Mem), gX11_looks X0 K X 1 12 69 [(0, .ref (xad X 362)), (2, .ref (xad X 385)), (3, .int y36), (4, .int x37)] [.int (m35 385 (ix y36)), .int y36, .ref (xad X 385)] m43 (k m43)) (fun m43 => ?_) (fun j69 hj69 => ?_)
      · refine ge_iconst (v := (0 : Int32)) DX11_looks_69 rfl ?_
        exact hj70 m43 (0 : Int32)
      refine ge_icmp_eq (tgt := 69) DX11_looks_49 (by decide) ?_ ?_
      · exact hj69 m35
      · refine ge_aload_n 0 DX11_looks_52 rfl ?_
        refine ge_iload_n 2 DX11_looks_53 rfl ?_
        refine ge_iload 3 DX11_looks_54 rfl ?_
        refine ge_callVi0 (st := [.int (m35 385 (ix y36)), .int y36, .ref (xad X 385)]) cm_X11_134 DX11_looks_56 is_362 rfl (okX11_isOver (kl K) X m35 y36 x37) rfl rfl (Nat.le_of_ble_eq_true rfl) (by decide) ⟨rfl, rfl⟩ ⟨by decide, by decide⟩ (fun r45 m44 => ?_)
        refine ge_if_eq (tgt := 69) DX11_looks_59 (by decide) ?_ ?_
        · exact hj69 m44
        · refine ge_iconst (v := (1 : Int32)) DX11_looks_62 rfl ?_
          refine ge_iload 3 DX11_looks_63 rfl ?_
          refine ge_ishl DX11_looks_65 ?_
          refine ge_goto (tgt := 70) DX11_looks_66 (by decide) ?_
          exact hj70 m44 ((1 : Int32) <<< (x37 &&& 31))
    · refine ge_sub [0, 1, 2] rfl ?_
      exact hk78 m35
set_option maxHeartbeats 4000000 in
set_option maxRecDepth 100000 in
theorem lX11_looks_L22 (K : Kt) (X : Xt) (X0 : Xt) (hn : 385 < xn X) (hret : ∀ (pc nx : Nat) (ls : List (Nat × Value)) (σ : Mem), Dc cX11_looks pc .return_ 1 nx → gX11_looks X0 K X 1 12 pc ls [] σ (some ((), σ))) {k84 : Mem → Option (Unit × Mem)}   (hk84 : ∀ (m3 : Mem), gX11_looks X0 K X 1 12 84 [(0, .ref (xad X 362)), (2, .ref (xad X 385))] [] m3 (k84 m3)) :
    ∀ (n : Nat) (m1 : Mem) (x2 : Int32), gX11_looks X0 K X 1 12 22 [(0, .ref (xad X 362)), (2, .ref (xad X 385)), (3, .int x2)] [] m1 (fX11_looks_L22  k84  n m1 x2) := by
  intro n
  induction n with
  | zero => intro m1 x2; exact ge_none
  | succ n ih =>
    intro m1 x2
    show gX11_looks X0 K X 1 12 22 [(0, .ref (xad X 362)), (2, .ref (xad X 385)), (3, .int x2)] [] m1 (fX11_looks_L22_b  k84  (fX11_looks_L22  k84  n) m1 x2)
    delta fX11_looks_L22_b
    refine ge_iload_n 2 DX11_looks_22 rfl ?_
    refine ge_aload_n 0 DX11_looks_23 rfl ?_
    refine ge_getI DX11_looks_24 fl_X11_76 is_362 (by decide) rfl ?_
    refine ge_icmp_ge (tgt := 84) DX11_looks_27 (by decide) ?_ ?_
    · refine ge_iconst (v := (0 : Int32)) DX11_looks_30 rfl ?_
      refine ge_istore (ls' := [(4, .int (0 : Int32)), (0, .ref (xad X 362)), (2, .ref (xad X 385)), (3, .int x2)]) DX11_looks_31 (by decide) rfl ?_
      refine ge_sub [1, 2, 3, 0] rfl ?_
      refine lX11_looks_L33 K X X0 hn hret x2 (fun m39 => ?_) 5000 m1 (0 : Int32)
      · refine ge_iinc 2 (v := (x2 + (1 : Int32))) (ls' := [(3, .int (x2 + (1 : Int32))), (0, .ref (xad X 362)), (2, .ref (xad X 385))]) DX11_looks_78 rfl rfl (by decide) rfl ?_
        refine ge_goto (tgt := 22) DX11_looks_81 (by decide) ?_
        refine ge_sub [1, 2, 0] rfl ?_
        exact ih m39 (x2 + (1 : Int32))
    · refine ge_sub [0, 1] rfl ?_
      exact hk84 m1
set_option maxHeartbeats 4000000 in
set_option maxRecDepth 100000 in
theorem lX11_looks_t (K : Kt) (X : Xt) (X0 : Xt) (hn : 385 < xn X) (hret : ∀ (pc nx : Nat) (ls : List (Nat × Value)) (σ : Mem), Dc cX11_looks pc .return_ 1 nx → gX11_looks X0 K X 1 12 pc ls [] σ (some ((), σ))) (m0 : Mem) (a1 : Int32) : gX11_looks X0 K X 1 12 19 [(1, .int a1), (0, .ref (xad X 362))] [.ref (xad X 385)] m0 (fX11_looks_t m0 a1) := by
  delta fX11_looks_t
  refine ge_astore_n (ls' := [(2, .ref (xad X 385)), (1, .int a1), (0, .ref (xad X 362))]) DX11_looks_19 (by decide) rfl ?_
  refine ge_iconst (v := (0 : Int32)) DX11_looks_20 rfl ?_
  refine ge_istore_n (ls' := [(3, .int (0 : Int32)), (2, .ref (xad X 385)), (1, .int a1), (0, .ref (xad X 362))]) DX11_looks_21 (by decide) rfl ?_
  refine ge_sub [3, 1, 0] rfl ?_
  refine lX11_looks_L22 K X X0 hn hret  (fun m4 => ?_) 5000 m0 (0 : Int32)
  · refine ge_iconst (v := (0 : Int32)) DX11_looks_84 rfl ?_
    refine ge_istore_n (ls' := [(3, .int (0 : Int32)), (0, .ref (xad X 362)), (2, .ref (xad X 385))]) DX11_looks_85 (by decide) rfl ?_
    refine ge_sub [1, 2, 0] rfl ?_
    refine lX11_looks_L86 K X X0 hn hret  (fun m8 => ?_) 5000 m4 (0 : Int32)
    · exact hret _ _ _ _ DX11_looks_223
set_option maxHeartbeats 4000000 in
set_option maxRecDepth 100000 in
theorem okX11_looks (l : Launch) (X : Xt) (hX : xn X = 385) (m0 : Mem) : Ct l yX11_looks cX11_looks 6 none rmX11_looks ιV X [.ref (xad X 362)] m0 (fX11_looks m0) := by
  refine ct_of (own := RX11) (ls := [(0, .ref (xad X 362))]) (by decide) rfl rfl (Nat.le_of_ble_eq_true rfl) (fun K => ?_)
  show gX11_looks X K X 0 0 0 [(0, .ref (xad X 362))] [] m0 (fX11_looks m0)
  delta fX11_looks
  refine ge_aload_n 0 DX11_looks_0 rfl ?_
  refine ge_getI DX11_looks_1 fl_X11_127 is_362 (by decide) rfl ?_
  refine ge_if_eq (tgt := 8) DX11_looks_4 (by decide) ?_ ?_
  · refine ge_aload_n 0 DX11_looks_8 rfl ?_
    refine ge_iconst (v := (1 : Int32)) DX11_looks_9 rfl ?_
    refine ge_putz rfl DX11_looks_10 fp_X11_127 is_362 (by decide) rfl (fun m1 => ?_)
    refine ge_iconst (v := (0 : Int32)) DX11_looks_13 rfl ?_
    refine ge_istore_n (ls' := [(1, .int (0 : Int32)), (0, .ref (xad X 362))]) DX11_looks_14 (by decide) rfl ?_
    refine ge_bipush (v := (12 : Int32)) DX11_looks_15 rfl ?_
    refine ge_newa DX11_looks_17 (mI 160 (by decide +kernel) rfl) hX (by decide) (by decide) (fun a m2 => ?_)
    exact lX11_looks_t K (ext X a) X (show 385 < 386 by decide) (fun pc nx ls σ h => ge_vretX hX rfl h) m2 (0 : Int32)
  · refine ge_widen (cells' := 1) (slots' := 12) (by omega) (by omega) ?_
    exact ge_vret rfl DX11_looks_7
