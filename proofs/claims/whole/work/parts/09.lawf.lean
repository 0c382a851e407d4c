def fL_law_L18_b (L : Nat) (xs : Nat → Int32)   (rec : Mem → Int32 → Option (Int32 × Mem)) (m1 : Mem) (x2 : Int32) : Option (Int32 × Mem) :=
  if ((Int32.ofNat L) - (5 : Int32)) < x2 then
    some ((1 : Int32), m1)
  else
    ck (inb x2 L) <|
    lt (fun (m3 : Mem) =>
      rec m3 (x2 + (5 : Int32))) <| fun j1349 =>
    if ((xs (ix x2)) &&& (63 : Int32)) = (0 : Int32) then
      ck (inb (x2 + (1 : Int32)) L) <|
      ck (inb (x2 + (2 : Int32)) L) <|
      ck (inb (x2 + (3 : Int32)) L) <|
      cl (fX10_feed m1 (((((xs (ix (x2 + (1 : Int32))))).toInt64) <<< (((32 : Int32)).toInt64 &&& 63)) ||| ((((xs (ix (x2 + (2 : Int32))))).toInt64) &&& (4294967295 : Int64))) (xs (ix (x2 + (3 : Int32))))) <| fun r6 m5 =>
      ck (inb (x2 + (1 : Int32)) L) <|
      ck (inb (x2 + (2 : Int32)) L) <|
      ck (inb (x2 + (3 : Int32)) L) <|
      cl (fX11_feed m5 (((((xs (ix (x2 + (1 : Int32))))).toInt64) <<< (((32 : Int32)).toInt64 &&& 63)) ||| ((((xs (ix (x2 + (2 : Int32))))).toInt64) &&& (4294967295 : Int64))) (xs (ix (x2 + (3 : Int32))))) <| fun r8 m7 =>
      if r6 = r8 then
        j1349 m7
      else
        some ((0 : Int32), m7)
    else
    if ((xs (ix x2)) &&& (63 : Int32)) = (1 : Int32) then
      cl (fX10_wipe m1) <| fun r11 m10 =>
      cl (fX11_wipe m10) <| fun r13 m12 =>
      if r11 = r13 then
        j1349 m12
      else
        some ((0 : Int32), m12)
    else
    if ((xs (ix x2)) &&& (63 : Int32)) = (2 : Int32) then
      cl (fX10_text m1) <| fun r16 m15 =>
      cl (fX11_text m15) <| fun r18 m17 =>
      if r16 = r18 then
        j1349 m17
      else
        some ((0 : Int32), m17)
    else
    if ((xs (ix x2)) &&& (63 : Int32)) = (3 : Int32) then
      ck (inb (x2 + (1 : Int32)) L) <|
      ck (inb (x2 + (2 : Int32)) L) <|
      cl (fX10_formOf m1 (xs (ix (x2 + (1 : Int32)))) (xs (ix (x2 + (2 : Int32))))) <| fun r21 m20 =>
      ck (inb (x2 + (1 : Int32)) L) <|
      ck (inb (x2 + (2 : Int32)) L) <|
      cl (fX11_formOf m20 (xs (ix (x2 + (1 : Int32)))) (xs (ix (x2 + (2 : Int32))))) <| fun r23 m22 =>
      if r21 = r23 then
        j1349 m22
      else
        some ((0 : Int32), m22)
    else
    if ((xs (ix x2)) &&& (63 : Int32)) = (4 : Int32) then
      ck (inb (x2 + (1 : Int32)) L) <|
      ck (inb (x2 + (2 : Int32)) L) <|
      ck (inb (x2 + (3 : Int32)) L) <|
      cl (fX10_named m1 (xs (ix (x2 + (1 : Int32)))) (xs (ix (x2 + (2 : Int32)))) (xs (ix (x2 + (3 : Int32))))) <| fun r26 m25 =>
      ck (inb (x2 + (1 : Int32)) L) <|
      ck (inb (x2 + (2 : Int32)) L) <|
      ck (inb (x2 + (3 : Int32)) L) <|
      cl (fX11_named m25 (xs (ix (x2 + (1 : Int32)))) (xs (ix (x2 + (2 : Int32)))) (xs (ix (x2 + (3 : Int32))))) <| fun r28 m27 =>
      if r26 = r28 then
        j1349 m27
      else
        some ((0 : Int32), m27)
    else
    if ((xs (ix x2)) &&& (63 : Int32)) = (5 : Int32) then
      ck (inb (x2 + (1 : Int32)) L) <|
      cl (fX10_ofKind m1 (xs (ix (x2 + (1 : Int32))))) <| fun r31 m30 =>
      ck (inb (x2 + (1 : Int32)) L) <|
      cl (fX11_ofKind m30 (xs (ix (x2 + (1 : Int32))))) <| fun r33 m32 =>
      if r31 = r33 then
        j1349 m32
      else
        some ((0 : Int32), m32)
    else
    if ((xs (ix x2)) &&& (63 : Int32)) = (6 : Int32) then
      ck (inb (x2 + (1 : Int32)) L) <|
      cl (fX10_means m1 (xs (ix (x2 + (1 : Int32))))) <| fun r36 m35 =>
      ck (inb (x2 + (1 : Int32)) L) <|
      cl (fX11_means m35 (xs (ix (x2 + (1 : Int32))))) <| fun r38 m37 =>
      if r36 = r38 then
        j1349 m37
      else
        some ((0 : Int32), m37)
    else
    if ((xs (ix x2)) &&& (63 : Int32)) = (7 : Int32) then
      ck (inb (x2 + (1 : Int32)) L) <|
      cl (fX10_fits m1 (xs (ix (x2 + (1 : Int32))))) <| fun r41 m40 =>
      ck (inb (x2 + (1 : Int32)) L) <|
      cl (fX11_fits m40 (xs (ix (x2 + (1 : Int32))))) <| fun r43 m42 =>
      if r41 = r43 then
        j1349 m42
      else
        some ((0 : Int32), m42)
    else
    if ((xs (ix x2)) &&& (63 : Int32)) = (8 : Int32) then
      ck (inb (x2 + (1 : Int32)) L) <|
      ck (inb (x2 + (2 : Int32)) L) <|
      cl (fX10_over m1 (xs (ix (x2 + (1 : Int32)))) (xs (ix (x2 + (2 : Int32))))) <| fun r46 m45 =>
      ck (inb (x2 + (1 : Int32)) L) <|
      ck (inb (x2 + (2 : Int32)) L) <|
      cl (fX11_over m45 (xs (ix (x2 + (1 : Int32)))) (xs (ix (x2 + (2 : Int32))))) <| fun r48 m47 =>
      if r46 = r48 then
        j1349 m47
      else
        some ((0 : Int32), m47)
    else
    if ((xs (ix x2)) &&& (63 : Int32)) = (9 : Int32) then
      ck (inb (x2 + (1 : Int32)) L) <|
      cl (fX10_many m1 (xs (ix (x2 + (1 : Int32))))) <| fun r51 m50 =>
      ck (inb (x2 + (1 : Int32)) L) <|
      cl (fX11_many m50 (xs (ix (x2 + (1 : Int32))))) <| fun r53 m52 =>
      if r51 = r53 then
        j1349 m52
      else
        some ((0 : Int32), m52)
    else
    if ((xs (ix x2)) &&& (63 : Int32)) = (10 : Int32) then
      ck (inb (x2 + (1 : Int32)) L) <|
      ck (inb (x2 + (2 : Int32)) L) <|
      cl (fX10_covers m1 (xs (ix (x2 + (1 : Int32)))) (xs (ix (x2 + (2 : Int32))))) <| fun r56 m55 =>
      ck (inb (x2 + (1 : Int32)) L) <|
      ck (inb (x2 + (2 : Int32)) L) <|
      cl (fX11_covers m55 (xs (ix (x2 + (1 : Int32)))) (xs (ix (x2 + (2 : Int32))))) <| fun r58 m57 =>
      if (lg_cmp r56 r58) = (0 : Int32) then
        j1349 m57
      else
        some ((0 : Int32), m57)
    else
    if ((xs (ix x2)) &&& (63 : Int32)) = (11 : Int32) then
      ck (inb (x2 + (1 : Int32)) L) <|
      ck (inb (x2 + (2 : Int32)) L) <|
      cl (fX10_next m1 (xs (ix (x2 + (1 : Int32)))) (xs (ix (x2 + (2 : Int32))))) <| fun r61 m60 =>
      ck (inb (x2 + (1 : Int32)) L) <|
      ck (inb (x2 + (2 : Int32)) L) <|
      cl (fX11_next m60 (xs (ix (x2 + (1 : Int32)))) (xs (ix (x2 + (2 : Int32))))) <| fun r63 m62 =>
      if r61 = r63 then
        j1349 m62
      else
        some ((0 : Int32), m62)
    else
    if ((xs (ix x2)) &&& (63 : Int32)) = (12 : Int32) then
      ck (inb (x2 + (1 : Int32)) L) <|
      ck (inb (x2 + (2 : Int32)) L) <|
      cl (fX10_clash m1 (xs (ix (x2 + (1 : Int32)))) (xs (ix (x2 + (2 : Int32))))) <| fun r66 m65 =>
      ck (inb (x2 + (1 : Int32)) L) <|
      ck (inb (x2 + (2 : Int32)) L) <|
      cl (fX11_clash m65 (xs (ix (x2 + (1 : Int32)))) (xs (ix (x2 + (2 : Int32))))) <| fun r68 m67 =>
      if r66 = r68 then
        j1349 m67
      else
        some ((0 : Int32), m67)
    else
    if ((xs (ix x2)) &&& (63 : Int32)) = (13 : Int32) then
      ck (inb (x2 + (1 : Int32)) L) <|
      cl (fX10_odd m1 (xs (ix (x2 + (1 : Int32))))) <| fun r71 m70 =>
      ck (inb (x2 + (1 : Int32)) L) <|
      cl (fX11_odd m70 (xs (ix (x2 + (1 : Int32))))) <| fun r73 m72 =>
      if r71 = r73 then
        j1349 m72
      else
        some ((0 : Int32), m72)
    else
    if ((xs (ix x2)) &&& (63 : Int32)) = (14 : Int32) then
      ck (inb (x2 + (1 : Int32)) L) <|
      ck (inb (x2 + (2 : Int32)) L) <|
      cl (fX10_greedy m1 (xs (ix (x2 + (1 : Int32)))) (xs (ix (x2 + (2 : Int32))))) <| fun r76 m75 =>
      ck (inb (x2 + (1 : Int32)) L) <|
      ck (inb (x2 + (2 : Int32)) L) <|
      cl (fX11_greedy m75 (xs (ix (x2 + (1 : Int32)))) (xs (ix (x2 + (2 : Int32))))) <| fun r78 m77 =>
      if r76 = r78 then
        j1349 m77
      else
        some ((0 : Int32), m77)
    else
    if ((xs (ix x2)) &&& (63 : Int32)) = (15 : Int32) then
      ck (inb (x2 + (1 : Int32)) L) <|
      ck (inb (x2 + (2 : Int32)) L) <|
      cl (fX10_least m1 (xs (ix (x2 + (1 : Int32)))) (xs (ix (x2 + (2 : Int32))))) <| fun r81 m80 =>
      ck (inb (x2 + (1 : Int32)) L) <|
      ck (inb (x2 + (2 : Int32)) L) <|
      cl (fX11_least m80 (xs (ix (x2 + (1 : Int32)))) (xs (ix (x2 + (2 : Int32))))) <| fun r83 m82 =>
      if r81 = r83 then
        j1349 m82
      else
        some ((0 : Int32), m82)
    else
    if ((xs (ix x2)) &&& (63 : Int32)) = (16 : Int32) then
      ck (inb (x2 + (1 : Int32)) L) <|
      ck (inb (x2 + (2 : Int32)) L) <|
      cl (fX10_leaf m1 (xs (ix (x2 + (1 : Int32)))) (xs (ix (x2 + (2 : Int32))))) <| fun r86 m85 =>
      ck (inb (x2 + (1 : Int32)) L) <|
      ck (inb (x2 + (2 : Int32)) L) <|
      cl (fX11_leaf m85 (xs (ix (x2 + (1 : Int32)))) (xs (ix (x2 + (2 : Int32))))) <| fun r88 m87 =>
      if r86 = r88 then
        j1349 m87
      else
        some ((0 : Int32), m87)
    else
    if ((xs (ix x2)) &&& (63 : Int32)) = (17 : Int32) then
      ck (inb (x2 + (1 : Int32)) L) <|
      ck (inb (x2 + (2 : Int32)) L) <|
      ck (inb (x2 + (3 : Int32)) L) <|
      cl (fX10_field m1 (xs (ix (x2 + (1 : Int32)))) (xs (ix (x2 + (2 : Int32)))) (xs (ix (x2 + (3 : Int32))))) <| fun r91 m90 =>
      ck (inb (x2 + (1 : Int32)) L) <|
      ck (inb (x2 + (2 : Int32)) L) <|
      ck (inb (x2 + (3 : Int32)) L) <|
      cl (fX11_field m90 (xs (ix (x2 + (1 : Int32)))) (xs (ix (x2 + (2 : Int32)))) (xs (ix (x2 + (3 : Int32))))) <| fun r93 m92 =>
      if r91 = r93 then
        j1349 m92
      else
        some ((0 : Int32), m92)
    else
    if ((xs (ix x2)) &&& (63 : Int32)) = (18 : Int32) then
      ck (inb (x2 + (1 : Int32)) L) <|
      ck (inb (x2 + (2 : Int32)) L) <|
      ck (inb (x2 + (3 : Int32)) L) <|
      cl (fX10_taken m1 (xs (ix (x2 + (1 : Int32)))) (xs (ix (x2 + (2 : Int32)))) (xs (ix (x2 + (3 : Int32))))) <| fun r96 m95 =>
      ck (inb (x2 + (1 : Int32)) L) <|
      ck (inb (x2 + (2 : Int32)) L) <|
      ck (inb (x2 + (3 : Int32)) L) <|
      cl (fX11_taken m95 (xs (ix (x2 + (1 : Int32)))) (xs (ix (x2 + (2 : Int32)))) (xs (ix (x2 + (3 : Int32))))) <| fun r98 m97 =>
      if r96 = r98 then
        j1349 m97
      else
        some ((0 : Int32), m97)
    else
    if ((xs (ix x2)) &&& (63 : Int32)) = (19 : Int32) then
      ck (inb (x2 + (1 : Int32)) L) <|
      ck (inb (x2 + (2 : Int32)) L) <|
      ck (inb (x2 + (3 : Int32)) L) <|
      ck (inb (x2 + (4 : Int32)) L) <|
      cl (fX10_laid m1 (xs (ix (x2 + (1 : Int32)))) (xs (ix (x2 + (2 : Int32)))) (xs (ix (x2 + (3 : Int32)))) (xs (ix (x2 + (4 : Int32))))) <| fun r101 m100 =>
      ck (inb (x2 + (1 : Int32)) L) <|
      ck (inb (x2 + (2 : Int32)) L) <|
      ck (inb (x2 + (3 : Int32)) L) <|
      ck (inb (x2 + (4 : Int32)) L) <|
      cl (fX11_laid m100 (xs (ix (x2 + (1 : Int32)))) (xs (ix (x2 + (2 : Int32)))) (xs (ix (x2 + (3 : Int32)))) (xs (ix (x2 + (4 : Int32))))) <| fun r103 m102 =>
      if r101 = r103 then
        j1349 m102
      else
        some ((0 : Int32), m102)
    else
    if ((xs (ix x2)) &&& (63 : Int32)) = (20 : Int32) then
      ck (inb (x2 + (1 : Int32)) L) <|
      ck (inb (x2 + (2 : Int32)) L) <|
      cl (fX10_hold m1 (xs (ix (x2 + (1 : Int32)))) (xs (ix (x2 + (2 : Int32))))) <| fun r106 m105 =>
      ck (inb (x2 + (1 : Int32)) L) <|
      ck (inb (x2 + (2 : Int32)) L) <|
      cl (fX11_hold m105 (xs (ix (x2 + (1 : Int32)))) (xs (ix (x2 + (2 : Int32))))) <| fun r108 m107 =>
      if r106 = r108 then
        j1349 m107
      else
        some ((0 : Int32), m107)
    else
    if ((xs (ix x2)) &&& (63 : Int32)) = (21 : Int32) then
      ck (inb (x2 + (1 : Int32)) L) <|
      cl (fX10_make m1 (xs (ix (x2 + (1 : Int32))))) <| fun r111 m110 =>
      ck (inb (x2 + (1 : Int32)) L) <|
      cl (fX11_make m110 (xs (ix (x2 + (1 : Int32))))) <| fun r113 m112 =>
      if r111 = r113 then
        j1349 m112
      else
        some ((0 : Int32), m112)
    else
    if ((xs (ix x2)) &&& (63 : Int32)) = (22 : Int32) then
      ck (inb (x2 + (1 : Int32)) L) <|
      cl (fX10_write m1 (xs (ix (x2 + (1 : Int32))))) <| fun r116 m115 =>
      ck (inb (x2 + (1 : Int32)) L) <|
      cl (fX11_write m115 (xs (ix (x2 + (1 : Int32))))) <| fun r118 m117 =>
      if r116 = r118 then
        j1349 m117
      else
        some ((0 : Int32), m117)
    else
    if ((xs (ix x2)) &&& (63 : Int32)) = (23 : Int32) then
      ck (inb (x2 + (1 : Int32)) L) <|
      cl (fX10_written m1 (xs (ix (x2 + (1 : Int32))))) <| fun r121 m120 =>
      ck (inb (x2 + (1 : Int32)) L) <|
      cl (fX11_written m120 (xs (ix (x2 + (1 : Int32))))) <| fun r123 m122 =>
      if r121 = r123 then
        j1349 m122
      else
        some ((0 : Int32), m122)
    else
    if ((xs (ix x2)) &&& (63 : Int32)) = (24 : Int32) then
      cl (fX10_read m1) <| fun r126 m125 =>
      cl (fX11_read m125) <| fun r128 m127 =>
      if r126 = r128 then
        j1349 m127
      else
        some ((0 : Int32), m127)
    else
    if ((xs (ix x2)) &&& (63 : Int32)) = (25 : Int32) then
      ck (inb (x2 + (1 : Int32)) L) <|
      ck (inb (x2 + (2 : Int32)) L) <|
      cl (fX10_put m1 (xs (ix (x2 + (1 : Int32)))) (xs (ix (x2 + (2 : Int32))))) <| fun r131 m130 =>
      ck (inb (x2 + (1 : Int32)) L) <|
      ck (inb (x2 + (2 : Int32)) L) <|
      cl (fX11_put m130 (xs (ix (x2 + (1 : Int32)))) (xs (ix (x2 + (2 : Int32))))) <| fun r133 m132 =>
      if r131 = r133 then
        j1349 m132
      else
        some ((0 : Int32), m132)
    else
    if ((xs (ix x2)) &&& (63 : Int32)) = (26 : Int32) then
      ck (inb (x2 + (1 : Int32)) L) <|
      cl (fX10_cell m1 (xs (ix (x2 + (1 : Int32))))) <| fun r136 m135 =>
      ck (inb (x2 + (1 : Int32)) L) <|
      cl (fX11_cell m135 (xs (ix (x2 + (1 : Int32))))) <| fun r138 m137 =>
      if r136 = r138 then
        j1349 m137
      else
        some ((0 : Int32), m137)
    else
    if ((xs (ix x2)) &&& (63 : Int32)) = (27 : Int32) then
      ck (inb (x2 + (1 : Int32)) L) <|
      ck (inb (x2 + (2 : Int32)) L) <|
      ck (inb (x2 + (3 : Int32)) L) <|
      cl (fX10_copy m1 (xs (ix (x2 + (1 : Int32)))) (xs (ix (x2 + (2 : Int32)))) (xs (ix (x2 + (3 : Int32))))) <| fun r141 m140 =>
      ck (inb (x2 + (1 : Int32)) L) <|
      ck (inb (x2 + (2 : Int32)) L) <|
      ck (inb (x2 + (3 : Int32)) L) <|
      cl (fX11_copy m140 (xs (ix (x2 + (1 : Int32)))) (xs (ix (x2 + (2 : Int32)))) (xs (ix (x2 + (3 : Int32))))) <| fun r143 m142 =>
      if r141 = r143 then
        j1349 m142
      else
        some ((0 : Int32), m142)
    else
    if ((xs (ix x2)) &&& (63 : Int32)) = (28 : Int32) then
      ck (inb (x2 + (1 : Int32)) L) <|
      cl (fX10_holders m1 (xs (ix (x2 + (1 : Int32))))) <| fun r146 m145 =>
      ck (inb (x2 + (1 : Int32)) L) <|
      cl (fX11_holders m145 (xs (ix (x2 + (1 : Int32))))) <| fun r148 m147 =>
      if r146 = r148 then
        j1349 m147
      else
        some ((0 : Int32), m147)
    else
    if ((xs (ix x2)) &&& (63 : Int32)) = (29 : Int32) then
      ck (inb (x2 + (1 : Int32)) L) <|
      ck (inb (x2 + (2 : Int32)) L) <|
      ck (inb (x2 + (3 : Int32)) L) <|
      cl (fX10_walk m1 (xs (ix (x2 + (1 : Int32)))) (xs (ix (x2 + (2 : Int32)))) (xs (ix (x2 + (3 : Int32))))) <| fun r151 m150 =>
      ck (inb (x2 + (1 : Int32)) L) <|
      ck (inb (x2 + (2 : Int32)) L) <|
      ck (inb (x2 + (3 : Int32)) L) <|
      cl (fX11_walk m150 (xs (ix (x2 + (1 : Int32)))) (xs (ix (x2 + (2 : Int32)))) (xs (ix (x2 + (3 : Int32))))) <| fun r153 m152 =>
      if r151 = r153 then
        j1349 m152
      else
        some ((0 : Int32), m152)
    else
    if ((xs (ix x2)) &&& (63 : Int32)) = (30 : Int32) then
      ck (inb (x2 + (1 : Int32)) L) <|
      cl (fX10_halts m1 (xs (ix (x2 + (1 : Int32))))) <| fun r156 m155 =>
      ck (inb (x2 + (1 : Int32)) L) <|
      cl (fX11_halts m155 (xs (ix (x2 + (1 : Int32))))) <| fun r158 m157 =>
      if r156 = r158 then
        j1349 m157
      else
        some ((0 : Int32), m157)
    else
    if ((xs (ix x2)) &&& (63 : Int32)) = (31 : Int32) then
      ck (inb (x2 + (1 : Int32)) L) <|
      ck (inb (x2 + (2 : Int32)) L) <|
      cl (fX10_run m1 (xs (ix (x2 + (1 : Int32)))) (xs (ix (x2 + (2 : Int32))))) <| fun r161 m160 =>
      ck (inb (x2 + (1 : Int32)) L) <|
      ck (inb (x2 + (2 : Int32)) L) <|
      cl (fX11_run m160 (xs (ix (x2 + (1 : Int32)))) (xs (ix (x2 + (2 : Int32))))) <| fun r163 m162 =>
      if r161 = r163 then
        j1349 m162
      else
        some ((0 : Int32), m162)
    else
    if ((xs (ix x2)) &&& (63 : Int32)) = (32 : Int32) then
      ck (inb (x2 + (1 : Int32)) L) <|
      cl (fX10_met m1 (xs (ix (x2 + (1 : Int32))))) <| fun r166 m165 =>
      ck (inb (x2 + (1 : Int32)) L) <|
      cl (fX11_met m165 (xs (ix (x2 + (1 : Int32))))) <| fun r168 m167 =>
      if r166 = r168 then
        j1349 m167
      else
        some ((0 : Int32), m167)
    else
    if ((xs (ix x2)) &&& (63 : Int32)) = (33 : Int32) then
      ck (inb (x2 + (1 : Int32)) L) <|
      cl (fX10_order m1 (xs (ix (x2 + (1 : Int32))))) <| fun r171 m170 =>
      ck (inb (x2 + (1 : Int32)) L) <|
      cl (fX11_order m170 (xs (ix (x2 + (1 : Int32))))) <| fun r173 m172 =>
      if r171 = r173 then
        j1349 m172
      else
        some ((0 : Int32), m172)
    else
    if ((xs (ix x2)) &&& (63 : Int32)) = (34 : Int32) then
      ck (inb (x2 + (1 : Int32)) L) <|
      cl (fX10_costs m1 (xs (ix (x2 + (1 : Int32))))) <| fun r176 m175 =>
      ck (inb (x2 + (1 : Int32)) L) <|
      cl (fX11_costs m175 (xs (ix (x2 + (1 : Int32))))) <| fun r178 m177 =>
      if r176 = r178 then
        j1349 m177
      else
        some ((0 : Int32), m177)
    else
    if ((xs (ix x2)) &&& (63 : Int32)) = (35 : Int32) then
      cl (fX10_undo m1) <| fun r181 m180 =>
      cl (fX11_undo m180) <| fun r183 m182 =>
      if r181 = r183 then
        j1349 m182
      else
        some ((0 : Int32), m182)
    else
    if ((xs (ix x2)) &&& (63 : Int32)) = (36 : Int32) then
      cl (fX10_image m1) <| fun r186 m185 =>
      cl (fX11_image m185) <| fun r188 m187 =>
      if r186 = r188 then
        j1349 m187
      else
        some ((0 : Int32), m187)
    else
    if ((xs (ix x2)) &&& (63 : Int32)) = (37 : Int32) then
      cl (fX10_back m1) <| fun r191 m190 =>
      cl (fX11_back m190) <| fun r193 m192 =>
      if r191 = r193 then
        j1349 m192
      else
        some ((0 : Int32), m192)
    else
    if ((xs (ix x2)) &&& (63 : Int32)) = (38 : Int32) then
      ck (inb (x2 + (1 : Int32)) L) <|
      cl (fX10_count m1 (xs (ix (x2 + (1 : Int32))))) <| fun r196 m195 =>
      ck (inb (x2 + (1 : Int32)) L) <|
      cl (fX11_count m195 (xs (ix (x2 + (1 : Int32))))) <| fun r198 m197 =>
      if r196 = r198 then
        j1349 m197
      else
        some ((0 : Int32), m197)
    else
    if ((xs (ix x2)) &&& (63 : Int32)) = (39 : Int32) then
      ck (inb (x2 + (1 : Int32)) L) <|
      cl (fX10_refused m1 (xs (ix (x2 + (1 : Int32))))) <| fun r201 m200 =>
      ck (inb (x2 + (1 : Int32)) L) <|
      cl (fX11_refused m200 (xs (ix (x2 + (1 : Int32))))) <| fun r203 m202 =>
      if r201 = r203 then
        j1349 m202
      else
        some ((0 : Int32), m202)
    else
      j1349 m1
def fL_law_L18 (L : Nat) (xs : Nat → Int32)   : Nat → Mem → Int32 → Option (Int32 × Mem)
  | 0 => fun _ _ => none
  | n + 1 => fun m1 x2 => fL_law_L18_b L xs   (fL_law_L18 L xs   n) m1 x2
