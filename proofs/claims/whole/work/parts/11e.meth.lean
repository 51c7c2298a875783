def Mo_changed  (v1 : Int32) (v2 : Int32) (v3 : Int32) (v4 : Int32) (P : PH) : Option (Int32) :=
  (Mo_changedX v2 (v1 - v1 / (12 : Int32) * (12 : Int32)) (v1 / (12 : Int32)) P).bind fun (x9 : Int32) =>
  (some (x9 + v3)).bind fun (u5_14 : Int32) =>
  (Mo_changedY v2 (v1 - v1 / (12 : Int32) * (12 : Int32)) (v1 / (12 : Int32)) P).bind fun (x25 : Int32) =>
  (some (x25 + v4)).bind fun (u6_31 : Int32) =>
  (Mo_within u5_14.toInt64 (0 : Int64) (11 : Int64) P).bind fun (x40 : Int32) =>
  if x40 = 0 then
    some (-1 : Int32)
  else
    (Mo_within u6_31.toInt64 (0 : Int64) (11 : Int64) P).bind fun (x53 : Int32) =>
    if x53 = 0 then
      some (-1 : Int32)
    else
      some (((12 : Int32) * u6_31) + u5_14)
set_option maxRecDepth 100000 in
set_option maxHeartbeats 4000000 in
theorem Mo_changed_ok {G : GT} {l : Launch} (hG : GOK G l)  (v1 : Int32) (v2 : Int32) (v3 : Int32) (v4 : Int32) (P : PH) : OkN G l yX11_changed miX11_changed 0 0 (tI P) [.ref (gA G 1), .int v1, .int v2, .int v3, .int v4] P (Mo_changed v1 v2 v3 v4 P) := by
  refine okN_of hG _ [(0, .ref (gA G 1)), (1, .int v1), (2, .int v2), (3, .int v3), (4, .int v4)] rfl rfl rfl (Nat.le_of_ble_eq_true rfl) rfl ?_
  unfold Mo_changed
  refine s_iload_n (pc := 0) 2 dX11_changed_0 rfl rfl ?_
  refine s_iload_n (pc := 1) 1 dX11_changed_1 rfl rfl ?_
  refine s_bipush (pc := 2) (v := 12) dX11_changed_2 rfl ?_
  refine s_irem (pc := 4) dX11_changed_4 (by decide) ?_
  refine s_iload_n (pc := 5) 1 dX11_changed_5 rfl rfl ?_
  refine s_bipush (pc := 6) (v := 12) dX11_changed_6 rfl ?_
  refine s_idiv (pc := 8) dX11_changed_8 (by decide) ?_
  refine s_callS (k := 0) (n := 0) (pc := 9) [.int v2, .int (v1 - v1 / (12 : Int32) * (12 : Int32)), .int (v1 / (12 : Int32))] (fun x9 => .int x9 :: []) (fun _ => P) dX11_changed_9 (cS_X11_312 hG) (Nat.le_of_ble_eq_true rfl) rfl (Mo_changedX_ok hG v2 (v1 - v1 / (12 : Int32) * (12 : Int32)) (v1 / (12 : Int32)) P) rfl (fun _ => rfl) (fun _ => rfl) (Nat.le_of_ble_eq_true rfl) rfl rfl (fun x9 => ?_)
  refine s_iload_n (pc := 12) 3 dX11_changed_12 rfl rfl ?_
  refine s_iadd (pc := 13) dX11_changed_13 ?_
  refine s_letI (fun u5_14 => ?_)
  refine s_istore (pc := 14) [(5, .int u5_14), (0, .ref (gA G 1)), (1, .int v1), (2, .int v2), (3, .int v3), (4, .int v4)] dX11_changed_14 (Nat.le_of_ble_eq_true rfl) rfl ?_
  refine s_iload_n (pc := 16) 3 dX11_changed_16 rfl rfl ?_
  refine s_iload_n (pc := 17) 2 dX11_changed_17 rfl rfl ?_
  refine s_bipush (pc := 18) (v := 12) dX11_changed_18 rfl ?_
  refine s_irem (pc := 20) dX11_changed_20 (by decide) ?_
  refine s_iload_n (pc := 21) 2 dX11_changed_21 rfl rfl ?_
  refine s_bipush (pc := 22) (v := 12) dX11_changed_22 rfl ?_
  refine s_idiv (pc := 24) dX11_changed_24 (by decide) ?_
  refine s_callS (k := 0) (n := 0) (pc := 25) [.int v2, .int (v1 - v1 / (12 : Int32) * (12 : Int32)), .int (v1 / (12 : Int32))] (fun x25 => .int x25 :: []) (fun _ => P) dX11_changed_25 (cS_X11_308 hG) (Nat.le_of_ble_eq_true rfl) rfl (Mo_changedY_ok hG v2 (v1 - v1 / (12 : Int32) * (12 : Int32)) (v1 / (12 : Int32)) P) rfl (fun _ => rfl) (fun _ => rfl) (Nat.le_of_ble_eq_true rfl) rfl rfl (fun x25 => ?_)
  refine s_iload (pc := 28) 5 dX11_changed_28 rfl ?_
  refine s_iadd (pc := 30) dX11_changed_30 ?_
  refine s_letI (fun u6_31 => ?_)
  refine s_istore (pc := 31) [(6, .int u6_31), (5, .int u5_14), (0, .ref (gA G 1)), (1, .int v1), (2, .int v2), (3, .int v3), (4, .int v4)] dX11_changed_31 (Nat.le_of_ble_eq_true rfl) rfl ?_
  refine s_iload (pc := 33) 1 dX11_changed_33 rfl ?_
  refine s_i2l (pc := 35) dX11_changed_35 ?_
  refine s_lconst (pc := 36) (v := 0) dX11_changed_36 rfl ?_
  refine s_ldc2 (pc := 37) (v := 11) dX11_changed_37 (gw_X11_96 hG) ?_
  refine s_callS (k := 0) (n := 0) (pc := 40) [.long (u5_14.toInt64), .long ((0 : Int64)), .long ((11 : Int64))] (fun x40 => .int x40 :: []) (fun _ => P) dX11_changed_40 (cS_X11_98 hG) (Nat.le_of_ble_eq_true rfl) rfl (Mo_within_ok hG u5_14.toInt64 (0 : Int64) (11 : Int64) P) rfl (fun _ => rfl) (fun _ => rfl) (Nat.le_of_ble_eq_true rfl) rfl rfl (fun x40 => ?_)
  refine s_if_eq (pc := 43) 70 dX11_changed_43 rfl ?_ ?_
  · refine s_iconst (pc := 70) (v := -1) dX11_changed_70 rfl ?_
    exact s_iret (pc := 71) dX11_changed_71 rfl rfl
  · refine s_iload (pc := 46) 0 dX11_changed_46 rfl ?_
    refine s_i2l (pc := 48) dX11_changed_48 ?_
    refine s_lconst (pc := 49) (v := 0) dX11_changed_49 rfl ?_
    refine s_ldc2 (pc := 50) (v := 11) dX11_changed_50 (gw_X11_96 hG) ?_
    refine s_callS (k := 0) (n := 0) (pc := 53) [.long (u6_31.toInt64), .long ((0 : Int64)), .long ((11 : Int64))] (fun x53 => .int x53 :: []) (fun _ => P) dX11_changed_53 (cS_X11_98 hG) (Nat.le_of_ble_eq_true rfl) rfl (Mo_within_ok hG u6_31.toInt64 (0 : Int64) (11 : Int64) P) rfl (fun _ => rfl) (fun _ => rfl) (Nat.le_of_ble_eq_true rfl) rfl rfl (fun x53 => ?_)
    refine s_if_eq (pc := 56) 70 dX11_changed_56 rfl ?_ ?_
    · refine s_iconst (pc := 70) (v := -1) dX11_changed_70 rfl ?_
      exact s_iret (pc := 71) dX11_changed_71 rfl rfl
    · refine s_bipush (pc := 59) (v := 12) dX11_changed_59 rfl ?_
      refine s_iload (pc := 61) 0 dX11_changed_61 rfl ?_
      refine s_imul (pc := 63) dX11_changed_63 ?_
      refine s_iload (pc := 64) 1 dX11_changed_64 rfl ?_
      refine s_iadd (pc := 66) dX11_changed_66 ?_
      refine s_goto (pc := 67) 71 dX11_changed_67 rfl ?_
      exact s_iret (pc := 71) dX11_changed_71 rfl rfl
def Mo_alike_161  (r61 : Int32 → PH → Option (Int32 × PH)) (r108 : Int32 → Int32 → PH → Option (Int32 × PH)) (v1 : Int32) (v2 : Int32) (v3 : Int32) (v4 : Int32) (v5 : Int32) (v6 : Int32) (v8 : Int32) (P : PH) : Option (Int32 × PH) :=
  (Mo_from v8 P).bind fun (x164 : Int32) =>
  if x164 = v6 then
    (Mo_to v8 P).bind fun (x175 : Int32) =>
    if x175 = v5 then
      r108 (1 : Int32) (v8 + 1) P
    else
      r108 (0 : Int32) (v8 + 1) P
  else
    r108 (0 : Int32) (v8 + 1) P
set_option maxRecDepth 100000 in
set_option maxHeartbeats 4000000 in
theorem Mo_alike_161_sem {G : GT} {l : Launch} (hG : GOK G l)  (v1 : Int32) (v2 : Int32) (v3 : Int32) (v4 : Int32) (v5 : Int32) (v6 : Int32) (v8 : Int32) (P : PH)  (r61 : Int32 → PH → Option (Int32 × PH)) (hr61 : ∀ (v4 : Int32) (P : PH), Sem G l miX11_alike 0 0 (rn tIH) 61 [(0, .ref (gA G 1)), (1, .int v1), (2, .int v2), (3, .int v3), (4, .int v4)] [] P (r61 v4 P)) (r108 : Int32 → Int32 → PH → Option (Int32 × PH)) (hr108 : ∀ (v7 : Int32) (v8 : Int32) (P : PH), Sem G l miX11_alike 0 0 (rn tIH) 108 [(0, .ref (gA G 1)), (1, .int v1), (2, .int v2), (3, .int v3), (4, .int v4), (5, .int v5), (6, .int v6), (7, .int v7), (8, .int v8)] [] P (r108 v7 v8 P)) : Sem G l miX11_alike 0 0 (rn tIH) 161 [(0, .ref (gA G 1)), (1, .int v1), (2, .int v2), (3, .int v3), (4, .int v4), (5, .int v5), (6, .int v6), (8, .int v8)] [] P (Mo_alike_161 r61 r108 v1 v2 v3 v4 v5 v6 v8 P) := by
  unfold Mo_alike_161
  refine s_aload_n (pc := 161) 0 dX11_alike_161 rfl rfl ?_
  refine s_iload (pc := 162) 7 dX11_alike_162 rfl ?_
  refine s_callV (k := 0) (n := 0) (pc := 164) [.int v8] (fun x164 => .int x164 :: []) (fun _ => P) dX11_alike_164 (cV_X11_261 hG) (Nat.le_of_ble_eq_true rfl) rfl kd_1 (Mo_from_ok hG v8 P) rfl (fun _ => rfl) (fun _ => rfl) (Nat.le_of_ble_eq_true rfl) rfl rfl (fun x164 => ?_)
  refine s_iload (pc := 167) 6 dX11_alike_167 rfl ?_
  refine s_icmp_ne (pc := 169) 187 dX11_alike_169 rfl ?_ ?_
  · refine s_aload_n (pc := 172) 0 dX11_alike_172 rfl rfl ?_
    refine s_iload (pc := 173) 7 dX11_alike_173 rfl ?_
    refine s_callV (k := 0) (n := 0) (pc := 175) [.int v8] (fun x175 => .int x175 :: []) (fun _ => P) dX11_alike_175 (cV_X11_264 hG) (Nat.le_of_ble_eq_true rfl) rfl kd_1 (Mo_to_ok hG v8 P) rfl (fun _ => rfl) (fun _ => rfl) (Nat.le_of_ble_eq_true rfl) rfl rfl (fun x175 => ?_)
    refine s_iload (pc := 178) 5 dX11_alike_178 rfl ?_
    refine s_icmp_ne (pc := 180) 187 dX11_alike_180 rfl ?_ ?_
    · refine s_iconst (pc := 183) (v := 1) dX11_alike_183 rfl ?_
      refine s_goto (pc := 184) 188 dX11_alike_184 rfl ?_
      refine s_istore (pc := 188) [(7, .int ((1 : Int32))), (0, .ref (gA G 1)), (1, .int v1), (2, .int v2), (3, .int v3), (4, .int v4), (5, .int v5), (6, .int v6), (8, .int v8)] dX11_alike_188 (Nat.le_of_ble_eq_true rfl) rfl ?_
      refine s_iinc (pc := 190) 8 1 [(8, .int (v8 + 1)), (7, .int ((1 : Int32))), (0, .ref (gA G 1)), (1, .int v1), (2, .int v2), (3, .int v3), (4, .int v4), (5, .int v5), (6, .int v6)] dX11_alike_190 rfl rfl (Nat.le_of_ble_eq_true rfl) rfl ?_
      refine s_goto (pc := 193) 108 dX11_alike_193 rfl ?_
      refine s_sub [2, 3, 4, 5, 6, 7, 8, 1, 0] rfl ?_
      exact hr108 (1 : Int32) (v8 + 1) P
    · refine s_iconst (pc := 187) (v := 0) dX11_alike_187 rfl ?_
      refine s_istore (pc := 188) [(7, .int ((0 : Int32))), (0, .ref (gA G 1)), (1, .int v1), (2, .int v2), (3, .int v3), (4, .int v4), (5, .int v5), (6, .int v6), (8, .int v8)] dX11_alike_188 (Nat.le_of_ble_eq_true rfl) rfl ?_
      refine s_iinc (pc := 190) 8 1 [(8, .int (v8 + 1)), (7, .int ((0 : Int32))), (0, .ref (gA G 1)), (1, .int v1), (2, .int v2), (3, .int v3), (4, .int v4), (5, .int v5), (6, .int v6)] dX11_alike_190 rfl rfl (Nat.le_of_ble_eq_true rfl) rfl ?_
      refine s_goto (pc := 193) 108 dX11_alike_193 rfl ?_
      refine s_sub [2, 3, 4, 5, 6, 7, 8, 1, 0] rfl ?_
      exact hr108 (0 : Int32) (v8 + 1) P
  · refine s_iconst (pc := 187) (v := 0) dX11_alike_187 rfl ?_
    refine s_istore (pc := 188) [(7, .int ((0 : Int32))), (0, .ref (gA G 1)), (1, .int v1), (2, .int v2), (3, .int v3), (4, .int v4), (5, .int v5), (6, .int v6), (8, .int v8)] dX11_alike_188 (Nat.le_of_ble_eq_true rfl) rfl ?_
    refine s_iinc (pc := 190) 8 1 [(8, .int (v8 + 1)), (7, .int ((0 : Int32))), (0, .ref (gA G 1)), (1, .int v1), (2, .int v2), (3, .int v3), (4, .int v4), (5, .int v5), (6, .int v6)] dX11_alike_190 rfl rfl (Nat.le_of_ble_eq_true rfl) rfl ?_
    refine s_goto (pc := 193) 108 dX11_alike_193 rfl ?_
    refine s_sub [2, 3, 4, 5, 6, 7, 8, 1, 0] rfl ?_
    exact hr108 (0 : Int32) (v8 + 1) P
def Mo_alike_108  (r61 : Int32 → PH → Option (Int32 × PH)) (v1 : Int32) (v2 : Int32) (v3 : Int32) (v4 : Int32) (v5 : Int32) (v6 : Int32)  : Nat → Int32 → Int32 → PH → Option (Int32 × PH)
  | 0 => fun _ _ _ => none
  | n + 1 => fun v7 v8 P =>
    gdI (0 : Int32) 512 <|
    if (P.1 88 (0 : Int32).toNatClampNeg) ≤ v8 then
      if v7 = 0 then
        gdP ((0 : Int32) = 0 ∨ (0 : Int32) = 1) <|
        some ((0 : Int32), P)
      else
        r61 (v4 + 1) P
    else
      if v7 = 0 then
        (Mo_inkOf v8 P).bind fun (x127 : Int32) =>
        (Mo_inkOf v4 P).bind fun (x133 : Int32) =>
        if x127 = x133 then
          (Mo_from v8 P).bind fun (x142 : Int32) =>
          if x142 = v5 then
            (Mo_to v8 P).bind fun (x153 : Int32) =>
            if x153 = v6 then
              Mo_alike_108 r61 v1 v2 v3 v4 v5 v6 n (1 : Int32) (v8 + 1) P
            else
              Mo_alike_161 r61 (Mo_alike_108 r61 v1 v2 v3 v4 v5 v6 n) v1 v2 v3 v4 v5 v6 v8 P
          else
            Mo_alike_161 r61 (Mo_alike_108 r61 v1 v2 v3 v4 v5 v6 n) v1 v2 v3 v4 v5 v6 v8 P
        else
          Mo_alike_108 r61 v1 v2 v3 v4 v5 v6 n (0 : Int32) (v8 + 1) P
      else
        Mo_alike_108 r61 v1 v2 v3 v4 v5 v6 n (1 : Int32) (v8 + 1) P
set_option maxRecDepth 100000 in
set_option maxHeartbeats 4000000 in
theorem Mo_alike_108_sem {G : GT} {l : Launch} (hG : GOK G l)  (v1 : Int32) (v2 : Int32) (v3 : Int32) (v4 : Int32) (v5 : Int32) (v6 : Int32)   (r61 : Int32 → PH → Option (Int32 × PH)) (hr61 : ∀ (v4 : Int32) (P : PH), Sem G l miX11_alike 0 0 (rn tIH) 61 [(0, .ref (gA G 1)), (1, .int v1), (2, .int v2), (3, .int v3), (4, .int v4)] [] P (r61 v4 P)) : ∀ (n : Nat) (v7 : Int32) (v8 : Int32) (P : PH), Sem G l miX11_alike 0 0 (rn tIH) 108 [(0, .ref (gA G 1)), (1, .int v1), (2, .int v2), (3, .int v3), (4, .int v4), (5, .int v5), (6, .int v6), (7, .int v7), (8, .int v8)] [] P (Mo_alike_108 r61 v1 v2 v3 v4 v5 v6 n v7 v8 P) := by
  intro n
  induction n with
  | zero => intro v7 v8 P; exact s_none rfl
  | succ n ih =>
    intro v7 v8 P
    rw [Mo_alike_108]
    refine s_iload (pc := 108) 8 dX11_alike_108 rfl ?_
    refine s_aload_n (pc := 110) 0 dX11_alike_110 rfl rfl ?_
    refine s_getR (pc := 111) 88 dX11_alike_111 (fi_X11_9 hG) kd_1 rfl ?_
    refine s_iconst (pc := 114) (v := 0) dX11_alike_114 rfl ?_
    refine s_iald (pc := 115) 512 dX11_alike_115 kd_88 ln_88 ?_
    refine s_icmp_ge (pc := 116) 196 dX11_alike_116 rfl ?_ ?_
    · refine s_iload (pc := 196) 7 dX11_alike_196 rfl ?_
      refine s_if_ne (pc := 198) 203 dX11_alike_198 rfl ?_ ?_
      · refine s_iconst (pc := 201) (v := 0) dX11_alike_201 rfl ?_
        exact s_zret (pc := 202) dX11_alike_202 rfl rfl
      · refine s_iinc (pc := 203) 4 1 [(4, .int (v4 + 1)), (0, .ref (gA G 1)), (1, .int v1), (2, .int v2), (3, .int v3), (5, .int v5), (6, .int v6), (7, .int v7), (8, .int v8)] dX11_alike_203 rfl rfl (Nat.le_of_ble_eq_true rfl) rfl ?_
        refine s_goto (pc := 206) 61 dX11_alike_206 rfl ?_
        refine s_sub [1, 2, 3, 4, 0] rfl ?_
        exact hr61 (v4 + 1) P
    · refine s_iload (pc := 119) 7 dX11_alike_119 rfl ?_
      refine s_if_ne (pc := 121) 183 dX11_alike_121 rfl ?_ ?_
      · refine s_aload_n (pc := 124) 0 dX11_alike_124 rfl rfl ?_
        refine s_iload (pc := 125) 8 dX11_alike_125 rfl ?_
        refine s_callV (k := 0) (n := 0) (pc := 127) [.int v8] (fun x127 => .int x127 :: []) (fun _ => P) dX11_alike_127 (cV_X11_258 hG) (Nat.le_of_ble_eq_true rfl) rfl kd_1 (Mo_inkOf_ok hG v8 P) rfl (fun _ => rfl) (fun _ => rfl) (Nat.le_of_ble_eq_true rfl) rfl rfl (fun x127 => ?_)
        refine s_aload_n (pc := 130) 0 dX11_alike_130 rfl rfl ?_
        refine s_iload (pc := 131) 4 dX11_alike_131 rfl ?_
        refine s_callV (k := 0) (n := 0) (pc := 133) [.int v4] (fun x133 => .int x133 :: [.int x127]) (fun _ => P) dX11_alike_133 (cV_X11_258 hG) (Nat.le_of_ble_eq_true rfl) rfl kd_1 (Mo_inkOf_ok hG v4 P) rfl (fun _ => rfl) (fun _ => rfl) (Nat.le_of_ble_eq_true rfl) rfl rfl (fun x133 => ?_)
        refine s_icmp_ne (pc := 136) 187 dX11_alike_136 rfl ?_ ?_
        · refine s_aload_n (pc := 139) 0 dX11_alike_139 rfl rfl ?_
          refine s_iload (pc := 140) 8 dX11_alike_140 rfl ?_
          refine s_callV (k := 0) (n := 0) (pc := 142) [.int v8] (fun x142 => .int x142 :: []) (fun _ => P) dX11_alike_142 (cV_X11_261 hG) (Nat.le_of_ble_eq_true rfl) rfl kd_1 (Mo_from_ok hG v8 P) rfl (fun _ => rfl) (fun _ => rfl) (Nat.le_of_ble_eq_true rfl) rfl rfl (fun x142 => ?_)
          refine s_iload (pc := 145) 5 dX11_alike_145 rfl ?_
          refine s_icmp_ne (pc := 147) 161 dX11_alike_147 rfl ?_ ?_
          · refine s_aload_n (pc := 150) 0 dX11_alike_150 rfl rfl ?_
            refine s_iload (pc := 151) 8 dX11_alike_151 rfl ?_
            refine s_callV (k := 0) (n := 0) (pc := 153) [.int v8] (fun x153 => .int x153 :: []) (fun _ => P) dX11_alike_153 (cV_X11_264 hG) (Nat.le_of_ble_eq_true rfl) rfl kd_1 (Mo_to_ok hG v8 P) rfl (fun _ => rfl) (fun _ => rfl) (Nat.le_of_ble_eq_true rfl) rfl rfl (fun x153 => ?_)
            refine s_iload (pc := 156) 6 dX11_alike_156 rfl ?_
            refine s_icmp_eq (pc := 158) 183 dX11_alike_158 rfl ?_ ?_
            · refine s_iconst (pc := 183) (v := 1) dX11_alike_183 rfl ?_
              refine s_goto (pc := 184) 188 dX11_alike_184 rfl ?_
              refine s_istore (pc := 188) [(7, .int ((1 : Int32))), (0, .ref (gA G 1)), (1, .int v1), (2, .int v2), (3, .int v3), (4, .int v4), (5, .int v5), (6, .int v6), (8, .int v8)] dX11_alike_188 (Nat.le_of_ble_eq_true rfl) rfl ?_
              refine s_iinc (pc := 190) 8 1 [(8, .int (v8 + 1)), (7, .int ((1 : Int32))), (0, .ref (gA G 1)), (1, .int v1), (2, .int v2), (3, .int v3), (4, .int v4), (5, .int v5), (6, .int v6)] dX11_alike_190 rfl rfl (Nat.le_of_ble_eq_true rfl) rfl ?_
              refine s_goto (pc := 193) 108 dX11_alike_193 rfl ?_
              refine s_sub [2, 3, 4, 5, 6, 7, 8, 1, 0] rfl ?_
              exact ih (1 : Int32) (v8 + 1) P
            · refine s_sub [0, 1, 2, 3, 4, 5, 6, 8] rfl ?_
              exact Mo_alike_161_sem hG v1 v2 v3 v4 v5 v6 v8 P r61 hr61 (Mo_alike_108 r61 v1 v2 v3 v4 v5 v6 n) ih
          · refine s_sub [0, 1, 2, 3, 4, 5, 6, 8] rfl ?_
            exact Mo_alike_161_sem hG v1 v2 v3 v4 v5 v6 v8 P r61 hr61 (Mo_alike_108 r61 v1 v2 v3 v4 v5 v6 n) ih
        · refine s_iconst (pc := 187) (v := 0) dX11_alike_187 rfl ?_
          refine s_istore (pc := 188) [(7, .int ((0 : Int32))), (0, .ref (gA G 1)), (1, .int v1), (2, .int v2), (3, .int v3), (4, .int v4), (5, .int v5), (6, .int v6), (8, .int v8)] dX11_alike_188 (Nat.le_of_ble_eq_true rfl) rfl ?_
          refine s_iinc (pc := 190) 8 1 [(8, .int (v8 + 1)), (7, .int ((0 : Int32))), (0, .ref (gA G 1)), (1, .int v1), (2, .int v2), (3, .int v3), (4, .int v4), (5, .int v5), (6, .int v6)] dX11_alike_190 rfl rfl (Nat.le_of_ble_eq_true rfl) rfl ?_
          refine s_goto (pc := 193) 108 dX11_alike_193 rfl ?_
          refine s_sub [2, 3, 4, 5, 6, 7, 8, 1, 0] rfl ?_
          exact ih (0 : Int32) (v8 + 1) P
      · refine s_iconst (pc := 183) (v := 1) dX11_alike_183 rfl ?_
        refine s_goto (pc := 184) 188 dX11_alike_184 rfl ?_
        refine s_istore (pc := 188) [(7, .int ((1 : Int32))), (0, .ref (gA G 1)), (1, .int v1), (2, .int v2), (3, .int v3), (4, .int v4), (5, .int v5), (6, .int v6), (8, .int v8)] dX11_alike_188 (Nat.le_of_ble_eq_true rfl) rfl ?_
        refine s_iinc (pc := 190) 8 1 [(8, .int (v8 + 1)), (7, .int ((1 : Int32))), (0, .ref (gA G 1)), (1, .int v1), (2, .int v2), (3, .int v3), (4, .int v4), (5, .int v5), (6, .int v6)] dX11_alike_190 rfl rfl (Nat.le_of_ble_eq_true rfl) rfl ?_
        refine s_goto (pc := 193) 108 dX11_alike_193 rfl ?_
        refine s_sub [2, 3, 4, 5, 6, 7, 8, 1, 0] rfl ?_
        exact ih (1 : Int32) (v8 + 1) P
def Mo_alike_61   (v1 : Int32) (v2 : Int32) (v3 : Int32)  : Nat → Int32 → PH → Option (Int32 × PH)
  | 0 => fun _ _ => none
  | n + 1 => fun v4 P =>
    gdI (0 : Int32) 512 <|
    if (P.1 88 (0 : Int32).toNatClampNeg) ≤ v4 then
      gdP ((1 : Int32) = 0 ∨ (1 : Int32) = 1) <|
      some ((1 : Int32), P)
    else
      (Mo_from v4 P).bind fun (x76 : Int32) =>
      (Mo_changed x76 v1 v2 v3 P).bind fun (x82 : Int32) =>
      (Mo_to v4 P).bind fun (x91 : Int32) =>
      (Mo_changed x91 v1 v2 v3 P).bind fun (x97 : Int32) =>
      Mo_alike_108 (Mo_alike_61 v1 v2 v3 n) v1 v2 v3 v4 x82 x97 bigN (0 : Int32) (0 : Int32) P
set_option maxRecDepth 100000 in
set_option maxHeartbeats 4000000 in
theorem Mo_alike_61_sem {G : GT} {l : Launch} (hG : GOK G l)  (v1 : Int32) (v2 : Int32) (v3 : Int32)    : ∀ (n : Nat) (v4 : Int32) (P : PH), Sem G l miX11_alike 0 0 (rn tIH) 61 [(0, .ref (gA G 1)), (1, .int v1), (2, .int v2), (3, .int v3), (4, .int v4)] [] P (Mo_alike_61 v1 v2 v3 n v4 P) := by
  intro n
  induction n with
  | zero => intro v4 P; exact s_none rfl
  | succ n ih =>
    intro v4 P
    rw [Mo_alike_61]
    refine s_iload (pc := 61) 4 dX11_alike_61 rfl ?_
    refine s_aload_n (pc := 63) 0 dX11_alike_63 rfl rfl ?_
    refine s_getR (pc := 64) 88 dX11_alike_64 (fi_X11_9 hG) kd_1 rfl ?_
    refine s_iconst (pc := 67) (v := 0) dX11_alike_67 rfl ?_
    refine s_iald (pc := 68) 512 dX11_alike_68 kd_88 ln_88 ?_
    refine s_icmp_ge (pc := 69) 209 dX11_alike_69 rfl ?_ ?_
    · refine s_iconst (pc := 209) (v := 1) dX11_alike_209 rfl ?_
      exact s_zret (pc := 210) dX11_alike_210 rfl rfl
    · refine s_aload_n (pc := 72) 0 dX11_alike_72 rfl rfl ?_
      refine s_aload_n (pc := 73) 0 dX11_alike_73 rfl rfl ?_
      refine s_iload (pc := 74) 4 dX11_alike_74 rfl ?_
      refine s_callV (k := 0) (n := 0) (pc := 76) [.int v4] (fun x76 => .int x76 :: [.ref (gA G 1)]) (fun _ => P) dX11_alike_76 (cV_X11_261 hG) (Nat.le_of_ble_eq_true rfl) rfl kd_1 (Mo_from_ok hG v4 P) rfl (fun _ => rfl) (fun _ => rfl) (Nat.le_of_ble_eq_true rfl) rfl rfl (fun x76 => ?_)
      refine s_iload_n (pc := 79) 1 dX11_alike_79 rfl rfl ?_
      refine s_iload_n (pc := 80) 2 dX11_alike_80 rfl rfl ?_
      refine s_iload_n (pc := 81) 3 dX11_alike_81 rfl rfl ?_
      refine s_callV (k := 0) (n := 0) (pc := 82) [.int x76, .int v1, .int v2, .int v3] (fun x82 => .int x82 :: []) (fun _ => P) dX11_alike_82 (cV_X11_319 hG) (Nat.le_of_ble_eq_true rfl) rfl kd_1 (Mo_changed_ok hG x76 v1 v2 v3 P) rfl (fun _ => rfl) (fun _ => rfl) (Nat.le_of_ble_eq_true rfl) rfl rfl (fun x82 => ?_)
      refine s_istore (pc := 85) [(5, .int x82), (0, .ref (gA G 1)), (1, .int v1), (2, .int v2), (3, .int v3), (4, .int v4)] dX11_alike_85 (Nat.le_of_ble_eq_true rfl) rfl ?_
      refine s_aload_n (pc := 87) 1 dX11_alike_87 rfl rfl ?_
      refine s_aload_n (pc := 88) 1 dX11_alike_88 rfl rfl ?_
      refine s_iload (pc := 89) 5 dX11_alike_89 rfl ?_
      refine s_callV (k := 0) (n := 0) (pc := 91) [.int v4] (fun x91 => .int x91 :: [.ref (gA G 1)]) (fun _ => P) dX11_alike_91 (cV_X11_264 hG) (Nat.le_of_ble_eq_true rfl) rfl kd_1 (Mo_to_ok hG v4 P) rfl (fun _ => rfl) (fun _ => rfl) (Nat.le_of_ble_eq_true rfl) rfl rfl (fun x91 => ?_)
      refine s_iload_n (pc := 94) 2 dX11_alike_94 rfl rfl ?_
      refine s_iload_n (pc := 95) 3 dX11_alike_95 rfl rfl ?_
      refine s_iload_n (pc := 96) 4 dX11_alike_96 rfl rfl ?_
      refine s_callV (k := 0) (n := 0) (pc := 97) [.int x91, .int v1, .int v2, .int v3] (fun x97 => .int x97 :: []) (fun _ => P) dX11_alike_97 (cV_X11_319 hG) (Nat.le_of_ble_eq_true rfl) rfl kd_1 (Mo_changed_ok hG x91 v1 v2 v3 P) rfl (fun _ => rfl) (fun _ => rfl) (Nat.le_of_ble_eq_true rfl) rfl rfl (fun x97 => ?_)
      refine s_istore (pc := 100) [(6, .int x97), (5, .int x82), (0, .ref (gA G 1)), (1, .int v1), (2, .int v2), (3, .int v3), (4, .int v4)] dX11_alike_100 (Nat.le_of_ble_eq_true rfl) rfl ?_
      refine s_iconst (pc := 102) (v := 0) dX11_alike_102 rfl ?_
      refine s_istore (pc := 103) [(7, .int ((0 : Int32))), (6, .int x97), (5, .int x82), (0, .ref (gA G 1)), (1, .int v1), (2, .int v2), (3, .int v3), (4, .int v4)] dX11_alike_103 (Nat.le_of_ble_eq_true rfl) rfl ?_
      refine s_iconst (pc := 105) (v := 0) dX11_alike_105 rfl ?_
      refine s_istore (pc := 106) [(8, .int ((0 : Int32))), (7, .int ((0 : Int32))), (6, .int x97), (5, .int x82), (0, .ref (gA G 1)), (1, .int v1), (2, .int v2), (3, .int v3), (4, .int v4)] dX11_alike_106 (Nat.le_of_ble_eq_true rfl) rfl ?_
      refine s_sub [4, 5, 6, 7, 8, 3, 2, 1, 0] rfl ?_
      exact Mo_alike_108_sem hG v1 v2 v3 v4 x82 x97 (Mo_alike_61 v1 v2 v3 n) ih bigN (0 : Int32) (0 : Int32) P
def Mo_alike_18   (v1 : Int32) (s0 : Int32) (P : PH) : Option (Int32 × PH) :=
  (some (sI P 1 5 s0)).bind fun (P18 : PH) =>
  if (P18.1 1 5) ≤ 0 then
    (Mo_least (4 : Int32) (0 : Int32) P18).bind fun (x33 : Int32) =>
    (Mo_least v1 (0 : Int32) P18).bind fun (x39 : Int32) =>
    (some (x33 - x39)).bind fun (u2_43 : Int32) =>
    (Mo_least (4 : Int32) (1 : Int32) P18).bind fun (x47 : Int32) =>
    (Mo_least v1 (1 : Int32) P18).bind fun (x53 : Int32) =>
    (some (x47 - x53)).bind fun (u3_57 : Int32) =>
    Mo_alike_61 v1 u2_43 u3_57 bigN (0 : Int32) P18
  else
    gdP ((0 : Int32) = 0 ∨ (0 : Int32) = 1) <|
    some ((0 : Int32), P18)
set_option maxRecDepth 100000 in
set_option maxHeartbeats 4000000 in
theorem Mo_alike_18_sem {G : GT} {l : Launch} (hG : GOK G l)  (v1 : Int32) (s0 : Int32) (P : PH)   : Sem G l miX11_alike 0 0 (rn tIH) 18 [(0, .ref (gA G 1)), (1, .int v1)] [.int s0, .ref (gA G 1)] P (Mo_alike_18 v1 s0 P) := by
  unfold Mo_alike_18
  refine s_putI (pc := 18) dX11_alike_18 (fp_X11_86 hG) kd_1 ?_
  refine s_letP (fun P18 => ?_)
  refine s_aload_n (pc := 21) 0 dX11_alike_21 rfl rfl ?_
  refine s_getI (pc := 22) dX11_alike_22 (fi_X11_86 hG) kd_1 ?_
  refine s_if_le (pc := 25) 30 dX11_alike_25 rfl ?_ ?_
  · refine s_aload_n (pc := 30) 0 dX11_alike_30 rfl rfl ?_
    refine s_iconst (pc := 31) (v := 4) dX11_alike_31 rfl ?_
    refine s_iconst (pc := 32) (v := 0) dX11_alike_32 rfl ?_
    refine s_callV (k := 0) (n := 0) (pc := 33) [.int ((4 : Int32)), .int ((0 : Int32))] (fun x33 => .int x33 :: []) (fun _ => P18) dX11_alike_33 (cV_X11_315 hG) (Nat.le_of_ble_eq_true rfl) rfl kd_1 (Mo_least_ok hG (4 : Int32) (0 : Int32) P18) rfl (fun _ => rfl) (fun _ => rfl) (Nat.le_of_ble_eq_true rfl) rfl rfl (fun x33 => ?_)
    refine s_aload_n (pc := 36) 0 dX11_alike_36 rfl rfl ?_
    refine s_iload_n (pc := 37) 1 dX11_alike_37 rfl rfl ?_
    refine s_iconst (pc := 38) (v := 0) dX11_alike_38 rfl ?_
    refine s_callV (k := 0) (n := 0) (pc := 39) [.int v1, .int ((0 : Int32))] (fun x39 => .int x39 :: [.int x33]) (fun _ => P18) dX11_alike_39 (cV_X11_315 hG) (Nat.le_of_ble_eq_true rfl) rfl kd_1 (Mo_least_ok hG v1 (0 : Int32) P18) rfl (fun _ => rfl) (fun _ => rfl) (Nat.le_of_ble_eq_true rfl) rfl rfl (fun x39 => ?_)
    refine s_isub (pc := 42) dX11_alike_42 ?_
    refine s_letI (fun u2_43 => ?_)
    refine s_istore_n (pc := 43) [(2, .int u2_43), (0, .ref (gA G 1)), (1, .int v1)] dX11_alike_43 rfl (Nat.le_of_ble_eq_true rfl) rfl ?_
    refine s_aload_n (pc := 44) 1 dX11_alike_44 rfl rfl ?_
    refine s_iconst (pc := 45) (v := 4) dX11_alike_45 rfl ?_
    refine s_iconst (pc := 46) (v := 1) dX11_alike_46 rfl ?_
    refine s_callV (k := 0) (n := 0) (pc := 47) [.int ((4 : Int32)), .int ((1 : Int32))] (fun x47 => .int x47 :: []) (fun _ => P18) dX11_alike_47 (cV_X11_315 hG) (Nat.le_of_ble_eq_true rfl) rfl kd_1 (Mo_least_ok hG (4 : Int32) (1 : Int32) P18) rfl (fun _ => rfl) (fun _ => rfl) (Nat.le_of_ble_eq_true rfl) rfl rfl (fun x47 => ?_)
    refine s_aload_n (pc := 50) 1 dX11_alike_50 rfl rfl ?_
    refine s_iload_n (pc := 51) 2 dX11_alike_51 rfl rfl ?_
    refine s_iconst (pc := 52) (v := 1) dX11_alike_52 rfl ?_
    refine s_callV (k := 0) (n := 0) (pc := 53) [.int v1, .int ((1 : Int32))] (fun x53 => .int x53 :: [.int x47]) (fun _ => P18) dX11_alike_53 (cV_X11_315 hG) (Nat.le_of_ble_eq_true rfl) rfl kd_1 (Mo_least_ok hG v1 (1 : Int32) P18) rfl (fun _ => rfl) (fun _ => rfl) (Nat.le_of_ble_eq_true rfl) rfl rfl (fun x53 => ?_)
    refine s_isub (pc := 56) dX11_alike_56 ?_
    refine s_letI (fun u3_57 => ?_)
    refine s_istore_n (pc := 57) [(3, .int u3_57), (2, .int u2_43), (0, .ref (gA G 1)), (1, .int v1)] dX11_alike_57 rfl (Nat.le_of_ble_eq_true rfl) rfl ?_
    refine s_iconst (pc := 58) (v := 0) dX11_alike_58 rfl ?_
    refine s_istore (pc := 59) [(4, .int ((0 : Int32))), (3, .int u3_57), (2, .int u2_43), (0, .ref (gA G 1)), (1, .int v1)] dX11_alike_59 (Nat.le_of_ble_eq_true rfl) rfl ?_
    refine s_sub [3, 4, 2, 1, 0] rfl ?_
    exact Mo_alike_61_sem hG v1 u2_43 u3_57 bigN (0 : Int32) P18
  · refine s_iconst (pc := 28) (v := 0) dX11_alike_28 rfl ?_
    exact s_zret (pc := 29) dX11_alike_29 rfl rfl
def Mo_alike  (v1 : Int32) (P : PH) : Option (Int32 × PH) :=
  (Mo_within v1.toInt64 (0 : Int64) (3 : Int64) P).bind fun (x7 : Int32) =>
  if x7 = 0 then
    Mo_alike_18 v1 (1 : Int32) P
  else
    Mo_alike_18 v1 (0 : Int32) P
set_option maxRecDepth 100000 in
set_option maxHeartbeats 4000000 in
theorem Mo_alike_ok {G : GT} {l : Launch} (hG : GOK G l)  (v1 : Int32) (P : PH) : OkN G l yX11_alike miX11_alike 0 0 tIH [.ref (gA G 1), .int v1] P (Mo_alike v1 P) := by
  refine okN_of hG _ [(0, .ref (gA G 1)), (1, .int v1)] rfl rfl rfl (Nat.le_of_ble_eq_true rfl) rfl ?_
  unfold Mo_alike
  refine s_aload_n (pc := 0) 0 dX11_alike_0 rfl rfl ?_
  refine s_iload_n (pc := 1) 1 dX11_alike_1 rfl rfl ?_
  refine s_i2l (pc := 2) dX11_alike_2 ?_
  refine s_lconst (pc := 3) (v := 0) dX11_alike_3 rfl ?_
  refine s_ldc2 (pc := 4) (v := 3) dX11_alike_4 (gw_X11_106 hG) ?_
  refine s_callS (k := 0) (n := 0) (pc := 7) [.long (v1.toInt64), .long ((0 : Int64)), .long ((3 : Int64))] (fun x7 => .int x7 :: [.ref (gA G 1)]) (fun _ => P) dX11_alike_7 (cS_X11_98 hG) (Nat.le_of_ble_eq_true rfl) rfl (Mo_within_ok hG v1.toInt64 (0 : Int64) (3 : Int64) P) rfl (fun _ => rfl) (fun _ => rfl) (Nat.le_of_ble_eq_true rfl) rfl rfl (fun x7 => ?_)
  refine s_if_eq (pc := 10) 17 dX11_alike_10 rfl ?_ ?_
  · refine s_iconst (pc := 17) (v := 1) dX11_alike_17 rfl ?_
    exact Mo_alike_18_sem hG v1 (1 : Int32) P
  · refine s_iconst (pc := 13) (v := 0) dX11_alike_13 rfl ?_
    refine s_goto (pc := 14) 18 dX11_alike_14 rfl ?_
    exact Mo_alike_18_sem hG v1 (0 : Int32) P
def Mo_isThere   (P : PH) : Option (Int32) :=
  gdI (2 : Int32) 512 <|
  if (P.1 88 (2 : Int32).toNatClampNeg) = (1 : Int32) then
    gdP ((1 : Int32) = 0 ∨ (1 : Int32) = 1) <|
    some (1 : Int32)
  else
    gdP ((0 : Int32) = 0 ∨ (0 : Int32) = 1) <|
    some (0 : Int32)
set_option maxRecDepth 100000 in
set_option maxHeartbeats 4000000 in
theorem Mo_isThere_ok {G : GT} {l : Launch} (hG : GOK G l)   (P : PH) : OkN G l yX11_isThere miX11_isThere 0 0 (tI P) [.ref (gA G 1)] P (Mo_isThere P) := by
  refine okN_of hG _ [(0, .ref (gA G 1))] rfl rfl rfl (Nat.le_of_ble_eq_true rfl) rfl ?_
  unfold Mo_isThere
  refine s_aload_n (pc := 0) 0 dX11_isThere_0 rfl rfl ?_
  refine s_getR (pc := 1) 88 dX11_isThere_1 (fi_X11_9 hG) kd_1 rfl ?_
  refine s_iconst (pc := 4) (v := 2) dX11_isThere_4 rfl ?_
  refine s_iald (pc := 5) 512 dX11_isThere_5 kd_88 ln_88 ?_
  refine s_iconst (pc := 6) (v := 1) dX11_isThere_6 rfl ?_
  refine s_icmp_ne (pc := 7) 14 dX11_isThere_7 rfl ?_ ?_
  · refine s_iconst (pc := 10) (v := 1) dX11_isThere_10 rfl ?_
    refine s_goto (pc := 11) 15 dX11_isThere_11 rfl ?_
    exact s_zret (pc := 15) dX11_isThere_15 rfl rfl
  · refine s_iconst (pc := 14) (v := 0) dX11_isThere_14 rfl ?_
    exact s_zret (pc := 15) dX11_isThere_15 rfl rfl
def Mo_isOver_15   (v1 : Int32) (s0 : Int32) (P : PH) : Option (Int32) :=
  if (v1 - v1 / (2 : Int32) * (2 : Int32)) = 0 then
    if s0 = (1 : Int32) then
      gdP ((1 : Int32) = 0 ∨ (1 : Int32) = 1) <|
      some (1 : Int32)
    else
      gdP ((0 : Int32) = 0 ∨ (0 : Int32) = 1) <|
      some (0 : Int32)
  else
    if s0 = (0 : Int32) then
      gdP ((1 : Int32) = 0 ∨ (1 : Int32) = 1) <|
      some (1 : Int32)
    else
      gdP ((0 : Int32) = 0 ∨ (0 : Int32) = 1) <|
      some (0 : Int32)
set_option maxRecDepth 100000 in
set_option maxHeartbeats 4000000 in
theorem Mo_isOver_15_sem {G : GT} {l : Launch} (hG : GOK G l)  (v1 : Int32) (s0 : Int32) (P : PH)   : Sem G l miX11_isOver 0 0 (rn (tI P)) 15 [(1, .int v1)] [.int s0] P (Mo_isOver_15 v1 s0 P) := by
  unfold Mo_isOver_15
  refine s_iload_n (pc := 15) 0 dX11_isOver_15 rfl rfl ?_
  refine s_iconst (pc := 16) (v := 2) dX11_isOver_16 rfl ?_
  refine s_irem (pc := 17) dX11_isOver_17 (by decide) ?_
  refine s_if_ne (pc := 18) 25 dX11_isOver_18 rfl ?_ ?_
  · refine s_iconst (pc := 21) (v := 1) dX11_isOver_21 rfl ?_
    refine s_goto (pc := 22) 26 dX11_isOver_22 rfl ?_
    refine s_icmp_ne (pc := 26) 33 dX11_isOver_26 rfl ?_ ?_
    · refine s_iconst (pc := 29) (v := 1) dX11_isOver_29 rfl ?_
      refine s_goto (pc := 30) 34 dX11_isOver_30 rfl ?_
      exact s_zret (pc := 34) dX11_isOver_34 rfl rfl
    · refine s_iconst (pc := 33) (v := 0) dX11_isOver_33 rfl ?_
      exact s_zret (pc := 34) dX11_isOver_34 rfl rfl
  · refine s_iconst (pc := 25) (v := 0) dX11_isOver_25 rfl ?_
    refine s_icmp_ne (pc := 26) 33 dX11_isOver_26 rfl ?_ ?_
    · refine s_iconst (pc := 29) (v := 1) dX11_isOver_29 rfl ?_
      refine s_goto (pc := 30) 34 dX11_isOver_30 rfl ?_
      exact s_zret (pc := 34) dX11_isOver_34 rfl rfl
    · refine s_iconst (pc := 33) (v := 0) dX11_isOver_33 rfl ?_
      exact s_zret (pc := 34) dX11_isOver_34 rfl rfl
def Mo_isOver  (v1 : Int32) (P : PH) : Option (Int32) :=
  gdI (5 : Int32) 512 <|
  if (P.1 88 (5 : Int32).toNatClampNeg) = (1 : Int32) then
    Mo_isOver_15 v1 (1 : Int32) P
  else
    Mo_isOver_15 v1 (0 : Int32) P
set_option maxRecDepth 100000 in
set_option maxHeartbeats 4000000 in
theorem Mo_isOver_ok {G : GT} {l : Launch} (hG : GOK G l)  (v1 : Int32) (P : PH) : OkN G l yX11_isOver miX11_isOver 0 0 (tI P) [.ref (gA G 1), .int v1] P (Mo_isOver v1 P) := by
  refine okN_of hG _ [(0, .ref (gA G 1)), (1, .int v1)] rfl rfl rfl (Nat.le_of_ble_eq_true rfl) rfl ?_
  unfold Mo_isOver
  refine s_aload_n (pc := 0) 0 dX11_isOver_0 rfl rfl ?_
  refine s_getR (pc := 1) 88 dX11_isOver_1 (fi_X11_9 hG) kd_1 rfl ?_
  refine s_iconst (pc := 4) (v := 5) dX11_isOver_4 rfl ?_
  refine s_iald (pc := 5) 512 dX11_isOver_5 kd_88 ln_88 ?_
  refine s_iconst (pc := 6) (v := 1) dX11_isOver_6 rfl ?_
  refine s_icmp_ne (pc := 7) 14 dX11_isOver_7 rfl ?_ ?_
  · refine s_iconst (pc := 10) (v := 1) dX11_isOver_10 rfl ?_
    refine s_goto (pc := 11) 15 dX11_isOver_11 rfl ?_
    refine s_sub [1] rfl ?_
    exact Mo_isOver_15_sem hG v1 (1 : Int32) P
  · refine s_iconst (pc := 14) (v := 0) dX11_isOver_14 rfl ?_
    refine s_sub [1] rfl ?_
    exact Mo_isOver_15_sem hG v1 (0 : Int32) P
def Mo_face  (v0 : Int32) (P : PH) : Option (Int32) :=
  if v0 = 0 then
    some (2 : Int32)
  else
    some (1 : Int32)
set_option maxRecDepth 100000 in
set_option maxHeartbeats 4000000 in
theorem Mo_face_ok {G : GT} {l : Launch} (hG : GOK G l)  (v0 : Int32) (P : PH) : OkN G l yX11_face miX11_face 0 0 (tI P) [.int v0] P (Mo_face v0 P) := by
  refine okN_of hG _ [(0, .int v0)] rfl rfl rfl (Nat.le_of_ble_eq_true rfl) rfl ?_
  unfold Mo_face
  refine s_iload_n (pc := 0) 0 dX11_face_0 rfl rfl ?_
  refine s_if_eq (pc := 1) 8 dX11_face_1 rfl ?_ ?_
  · refine s_iconst (pc := 8) (v := 2) dX11_face_8 rfl ?_
    exact s_iret (pc := 9) dX11_face_9 rfl rfl
  · refine s_iconst (pc := 4) (v := 1) dX11_face_4 rfl ?_
    refine s_goto (pc := 5) 9 dX11_face_5 rfl ?_
    exact s_iret (pc := 9) dX11_face_9 rfl rfl
def Mo_holeBehind_9   (v1 : Int32) (P : PH) : Nat → Int32 → Int32 → Option (Int32)
  | 0 => fun _ _ => none
  | n + 1 => fun v2 v3 =>
    if v1 ≤ v3 then
      some v2
    else
      gdI ((392 : Int32) + v3) 512 <|
      (Mo_step v2 (P.1 88 ((392 : Int32) + v3).toNatClampNeg) P).bind fun (x25 : Int32) =>
      Mo_holeBehind_9 v1 P n x25 (v3 + 1)
set_option maxRecDepth 100000 in
set_option maxHeartbeats 4000000 in
theorem Mo_holeBehind_9_sem {G : GT} {l : Launch} (hG : GOK G l)  (v1 : Int32) (P : PH)   : ∀ (n : Nat) (v2 : Int32) (v3 : Int32), Sem G l miX11_holeBehind 0 0 (rn (tI P)) 9 [(0, .ref (gA G 1)), (1, .int v1), (2, .int v2), (3, .int v3)] [] P (Mo_holeBehind_9 v1 P n v2 v3) := by
  intro n
  induction n with
  | zero => intro v2 v3; exact s_none rfl
  | succ n ih =>
    intro v2 v3
    rw [Mo_holeBehind_9]
    refine s_iload_n (pc := 9) 3 dX11_holeBehind_9 rfl rfl ?_
    refine s_iload_n (pc := 10) 1 dX11_holeBehind_10 rfl rfl ?_
    refine s_icmp_ge (pc := 11) 35 dX11_holeBehind_11 rfl ?_ ?_
    · refine s_iload_n (pc := 35) 2 dX11_holeBehind_35 rfl rfl ?_
      exact s_iret (pc := 36) dX11_holeBehind_36 rfl rfl
    · refine s_iload_n (pc := 14) 2 dX11_holeBehind_14 rfl rfl ?_
      refine s_aload_n (pc := 15) 0 dX11_holeBehind_15 rfl rfl ?_
      refine s_getR (pc := 16) 88 dX11_holeBehind_16 (fi_X11_9 hG) kd_1 rfl ?_
      refine s_sipush (pc := 19) (v := 392) dX11_holeBehind_19 rfl ?_
      refine s_iload_n (pc := 22) 3 dX11_holeBehind_22 rfl rfl ?_
      refine s_iadd (pc := 23) dX11_holeBehind_23 ?_
      refine s_iald (pc := 24) 512 dX11_holeBehind_24 kd_88 ln_88 ?_
      refine s_callS (k := 0) (n := 0) (pc := 25) [.int v2, .int (P.1 88 ((392 : Int32) + v3).toNatClampNeg)] (fun x25 => .int x25 :: []) (fun _ => P) dX11_holeBehind_25 (cS_X11_108 hG) (Nat.le_of_ble_eq_true rfl) rfl (Mo_step_ok hG v2 (P.1 88 ((392 : Int32) + v3).toNatClampNeg) P) rfl (fun _ => rfl) (fun _ => rfl) (Nat.le_of_ble_eq_true rfl) rfl rfl (fun x25 => ?_)
      refine s_istore_n (pc := 28) [(2, .int x25), (0, .ref (gA G 1)), (1, .int v1), (3, .int v3)] dX11_holeBehind_28 rfl (Nat.le_of_ble_eq_true rfl) rfl ?_
      refine s_iinc (pc := 29) 3 1 [(3, .int (v3 + 1)), (2, .int x25), (0, .ref (gA G 1)), (1, .int v1)] dX11_holeBehind_29 rfl rfl (Nat.le_of_ble_eq_true rfl) rfl ?_
      refine s_goto (pc := 32) 9 dX11_holeBehind_32 rfl ?_
      refine s_sub [2, 3, 1, 0] rfl ?_
      exact ih x25 (v3 + 1)
def Mo_holeBehind  (v1 : Int32) (P : PH) : Option (Int32) :=
  gdI (4 : Int32) 512 <|
  (some (P.1 88 (4 : Int32).toNatClampNeg)).bind fun (u2_6 : Int32) =>
  Mo_holeBehind_9 v1 P bigN u2_6 (0 : Int32)
set_option maxRecDepth 100000 in
set_option maxHeartbeats 4000000 in
theorem Mo_holeBehind_ok {G : GT} {l : Launch} (hG : GOK G l)  (v1 : Int32) (P : PH) : OkN G l yX11_holeBehind miX11_holeBehind 0 0 (tI P) [.ref (gA G 1), .int v1] P (Mo_holeBehind v1 P) := by
  refine okN_of hG _ [(0, .ref (gA G 1)), (1, .int v1)] rfl rfl rfl (Nat.le_of_ble_eq_true rfl) rfl ?_
  unfold Mo_holeBehind
  refine s_aload_n (pc := 0) 0 dX11_holeBehind_0 rfl rfl ?_
  refine s_getR (pc := 1) 88 dX11_holeBehind_1 (fi_X11_9 hG) kd_1 rfl ?_
  refine s_iconst (pc := 4) (v := 4) dX11_holeBehind_4 rfl ?_
  refine s_iald (pc := 5) 512 dX11_holeBehind_5 kd_88 ln_88 ?_
  refine s_letI (fun u2_6 => ?_)
  refine s_istore_n (pc := 6) [(2, .int u2_6), (0, .ref (gA G 1)), (1, .int v1)] dX11_holeBehind_6 rfl (Nat.le_of_ble_eq_true rfl) rfl ?_
  refine s_iconst (pc := 7) (v := 0) dX11_holeBehind_7 rfl ?_
  refine s_istore_n (pc := 8) [(3, .int ((0 : Int32))), (2, .int u2_6), (0, .ref (gA G 1)), (1, .int v1)] dX11_holeBehind_8 rfl (Nat.le_of_ble_eq_true rfl) rfl ?_
  refine s_sub [2, 3, 1, 0] rfl ?_
  exact Mo_holeBehind_9_sem hG v1 P bigN u2_6 (0 : Int32)
def Mo_hole   (P : PH) : Option (Int32) :=
  gdI (6 : Int32) 512 <|
  (Mo_holeBehind (P.1 88 (6 : Int32).toNatClampNeg) P).bind fun (x8 : Int32) =>
  some x8
set_option maxRecDepth 100000 in
set_option maxHeartbeats 4000000 in
theorem Mo_hole_ok {G : GT} {l : Launch} (hG : GOK G l)   (P : PH) : OkN G l yX11_hole miX11_hole 0 0 (tI P) [.ref (gA G 1)] P (Mo_hole P) := by
  refine okN_of hG _ [(0, .ref (gA G 1))] rfl rfl rfl (Nat.le_of_ble_eq_true rfl) rfl ?_
  unfold Mo_hole
  refine s_aload_n (pc := 0) 0 dX11_hole_0 rfl rfl ?_
  refine s_aload_n (pc := 1) 0 dX11_hole_1 rfl rfl ?_
  refine s_getR (pc := 2) 88 dX11_hole_2 (fi_X11_9 hG) kd_1 rfl ?_
  refine s_bipush (pc := 5) (v := 6) dX11_hole_5 rfl ?_
  refine s_iald (pc := 7) 512 dX11_hole_7 kd_88 ln_88 ?_
  refine s_callV (k := 0) (n := 0) (pc := 8) [.int (P.1 88 (6 : Int32).toNatClampNeg)] (fun x8 => .int x8 :: []) (fun _ => P) dX11_hole_8 (cV_X11_323 hG) (Nat.le_of_ble_eq_true rfl) rfl kd_1 (Mo_holeBehind_ok hG (P.1 88 (6 : Int32).toNatClampNeg) P) rfl (fun _ => rfl) (fun _ => rfl) (Nat.le_of_ble_eq_true rfl) rfl rfl (fun x8 => ?_)
  exact s_iret (pc := 11) dX11_hole_11 rfl rfl
def Mo_whyNot_33   (s0 : Int32) (P : PH) : Option (Int32) :=
  if s0 = (-1 : Int32) then
    some (2 : Int32)
  else
    (Mo_inkOf s0 P).bind fun (x41 : Int32) =>
    gdI (3 : Int32) 512 <|
    if x41 = (P.1 88 (3 : Int32).toNatClampNeg) then
      (Mo_worked s0 P).bind fun (x57 : Int32) =>
      gdI (6 : Int32) 512 <|
      (Mo_isOver (P.1 88 (6 : Int32).toNatClampNeg) P).bind fun (x68 : Int32) =>
      (Mo_face x68 P).bind fun (x71 : Int32) =>
      if (x57 &&& x71) = 0 then
        some (0 : Int32)
      else
        some (3 : Int32)
    else
      some (2 : Int32)
set_option maxRecDepth 100000 in
set_option maxHeartbeats 4000000 in
theorem Mo_whyNot_33_sem {G : GT} {l : Launch} (hG : GOK G l)  (s0 : Int32) (P : PH)   : Sem G l miX11_whyNot 0 0 (rn (tI P)) 33 [(0, .ref (gA G 1))] [.int s0] P (Mo_whyNot_33 s0 P) := by
  unfold Mo_whyNot_33
  refine s_istore_n (pc := 33) [(3, .int s0), (0, .ref (gA G 1))] dX11_whyNot_33 rfl (Nat.le_of_ble_eq_true rfl) rfl ?_
  refine s_iload_n (pc := 34) 0 dX11_whyNot_34 rfl rfl ?_
  refine s_iconst (pc := 35) (v := -1) dX11_whyNot_35 rfl ?_
  refine s_icmp_eq (pc := 36) 53 dX11_whyNot_36 rfl ?_ ?_
  · refine s_iconst (pc := 53) (v := 2) dX11_whyNot_53 rfl ?_
    exact s_iret (pc := 54) dX11_whyNot_54 rfl rfl
  · refine s_aload_n (pc := 39) 1 dX11_whyNot_39 rfl rfl ?_
    refine s_iload_n (pc := 40) 0 dX11_whyNot_40 rfl rfl ?_
    refine s_callV (k := 0) (n := 0) (pc := 41) [.int s0] (fun x41 => .int x41 :: []) (fun _ => P) dX11_whyNot_41 (cV_X11_258 hG) (Nat.le_of_ble_eq_true rfl) rfl kd_1 (Mo_inkOf_ok hG s0 P) rfl (fun _ => rfl) (fun _ => rfl) (Nat.le_of_ble_eq_true rfl) rfl rfl (fun x41 => ?_)
    refine s_aload_n (pc := 44) 1 dX11_whyNot_44 rfl rfl ?_
    refine s_getR (pc := 45) 88 dX11_whyNot_45 (fi_X11_9 hG) kd_1 rfl ?_
    refine s_iconst (pc := 48) (v := 3) dX11_whyNot_48 rfl ?_
    refine s_iald (pc := 49) 512 dX11_whyNot_49 kd_88 ln_88 ?_
    refine s_icmp_eq (pc := 50) 55 dX11_whyNot_50 rfl ?_ ?_
    · refine s_aload_n (pc := 55) 1 dX11_whyNot_55 rfl rfl ?_
      refine s_iload_n (pc := 56) 0 dX11_whyNot_56 rfl rfl ?_
      refine s_callV (k := 0) (n := 0) (pc := 57) [.int s0] (fun x57 => .int x57 :: []) (fun _ => P) dX11_whyNot_57 (cV_X11_270 hG) (Nat.le_of_ble_eq_true rfl) rfl kd_1 (Mo_worked_ok hG s0 P) rfl (fun _ => rfl) (fun _ => rfl) (Nat.le_of_ble_eq_true rfl) rfl rfl (fun x57 => ?_)
      refine s_aload_n (pc := 60) 1 dX11_whyNot_60 rfl rfl ?_
      refine s_aload_n (pc := 61) 1 dX11_whyNot_61 rfl rfl ?_
      refine s_getR (pc := 62) 88 dX11_whyNot_62 (fi_X11_9 hG) kd_1 rfl ?_
      refine s_bipush (pc := 65) (v := 6) dX11_whyNot_65 rfl ?_
      refine s_iald (pc := 67) 512 dX11_whyNot_67 kd_88 ln_88 ?_
      refine s_callV (k := 0) (n := 0) (pc := 68) [.int (P.1 88 (6 : Int32).toNatClampNeg)] (fun x68 => .int x68 :: [.int x57]) (fun _ => P) dX11_whyNot_68 (cV_X11_333 hG) (Nat.le_of_ble_eq_true rfl) rfl kd_1 (Mo_isOver_ok hG (P.1 88 (6 : Int32).toNatClampNeg) P) rfl (fun _ => rfl) (fun _ => rfl) (Nat.le_of_ble_eq_true rfl) rfl rfl (fun x68 => ?_)
      refine s_callS (k := 0) (n := 0) (pc := 71) [.int x68] (fun x71 => .int x71 :: [.int x57]) (fun _ => P) dX11_whyNot_71 (cS_X11_336 hG) (Nat.le_of_ble_eq_true rfl) rfl (Mo_face_ok hG x68 P) rfl (fun _ => rfl) (fun _ => rfl) (Nat.le_of_ble_eq_true rfl) rfl rfl (fun x71 => ?_)
      refine s_iand (pc := 74) dX11_whyNot_74 ?_
      refine s_if_eq (pc := 75) 82 dX11_whyNot_75 rfl ?_ ?_
      · refine s_iconst (pc := 82) (v := 0) dX11_whyNot_82 rfl ?_
        exact s_iret (pc := 83) dX11_whyNot_83 rfl rfl
      · refine s_iconst (pc := 78) (v := 3) dX11_whyNot_78 rfl ?_
        refine s_goto (pc := 79) 83 dX11_whyNot_79 rfl ?_
        exact s_iret (pc := 83) dX11_whyNot_83 rfl rfl
    · refine s_iconst (pc := 53) (v := 2) dX11_whyNot_53 rfl ?_
      exact s_iret (pc := 54) dX11_whyNot_54 rfl rfl
def Mo_whyNot  (v1 : Int64) (P : PH) : Option (Int32) :=
  (Mo_isThere P).bind fun (x1 : Int32) =>
  if x1 = 0 then
    some (1 : Int32)
  else
    (Mo_isWay v1 P).bind fun (x10 : Int32) =>
    if x10 = 0 then
      Mo_whyNot_33 (-1 : Int32) P
    else
      (Mo_hole P).bind fun (x21 : Int32) =>
      (Mo_find 88 x21 v1.toInt32 P).bind fun (x26 : Int32) =>
      Mo_whyNot_33 x26 P
set_option maxRecDepth 100000 in
set_option maxHeartbeats 4000000 in
theorem Mo_whyNot_ok {G : GT} {l : Launch} (hG : GOK G l)  (v1 : Int64) (P : PH) : OkN G l yX11_whyNot miX11_whyNot 0 0 (tI P) [.ref (gA G 1), .long v1] P (Mo_whyNot v1 P) := by
  refine okN_of hG _ [(0, .ref (gA G 1)), (1, .long v1)] rfl rfl rfl (Nat.le_of_ble_eq_true rfl) rfl ?_
  unfold Mo_whyNot
  refine s_aload_n (pc := 0) 0 dX11_whyNot_0 rfl rfl ?_
  refine s_callV (k := 0) (n := 0) (pc := 1) [] (fun x1 => .int x1 :: []) (fun _ => P) dX11_whyNot_1 (cV_X11_326 hG) (Nat.le_of_ble_eq_true rfl) rfl kd_1 (Mo_isThere_ok hG P) rfl (fun _ => rfl) (fun _ => rfl) (Nat.le_of_ble_eq_true rfl) rfl rfl (fun x1 => ?_)
  refine s_if_ne (pc := 4) 9 dX11_whyNot_4 rfl ?_ ?_
  · refine s_iconst (pc := 7) (v := 1) dX11_whyNot_7 rfl ?_
    exact s_iret (pc := 8) dX11_whyNot_8 rfl rfl
  · refine s_lload_n (pc := 9) 1 dX11_whyNot_9 rfl rfl ?_
    refine s_callS (k := 0) (n := 0) (pc := 10) [.long v1] (fun x10 => .int x10 :: []) (fun _ => P) dX11_whyNot_10 (cS_X11_276 hG) (Nat.le_of_ble_eq_true rfl) rfl (Mo_isWay_ok hG v1 P) rfl (fun _ => rfl) (fun _ => rfl) (Nat.le_of_ble_eq_true rfl) rfl rfl (fun x10 => ?_)
    refine s_if_eq (pc := 13) 32 dX11_whyNot_13 rfl ?_ ?_
    · refine s_iconst (pc := 32) (v := -1) dX11_whyNot_32 rfl ?_
      refine s_sub [0] rfl ?_
      exact Mo_whyNot_33_sem hG (-1 : Int32) P
    · refine s_aload_n (pc := 16) 0 dX11_whyNot_16 rfl rfl ?_
      refine s_getR (pc := 17) 88 dX11_whyNot_17 (fi_X11_9 hG) kd_1 rfl ?_
      refine s_aload_n (pc := 20) 0 dX11_whyNot_20 rfl rfl ?_
      refine s_callV (k := 0) (n := 0) (pc := 21) [] (fun x21 => .int x21 :: [.ref (gA G 88)]) (fun _ => P) dX11_whyNot_21 (cV_X11_330 hG) (Nat.le_of_ble_eq_true rfl) rfl kd_1 (Mo_hole_ok hG P) rfl (fun _ => rfl) (fun _ => rfl) (Nat.le_of_ble_eq_true rfl) rfl rfl (fun x21 => ?_)
      refine s_lload_n (pc := 24) 1 dX11_whyNot_24 rfl rfl ?_
      refine s_l2i (pc := 25) dX11_whyNot_25 ?_
      refine s_callS (k := 0) (n := 0) (pc := 26) [.ref (gA G 88), .int x21, .int (v1.toInt32)] (fun x26 => .int x26 :: []) (fun _ => P) dX11_whyNot_26 (cS_X11_236 hG) (Nat.le_of_ble_eq_true rfl) rfl (Mo_find_ok hG 88 ⟨kd_88, ln_88⟩ x21 v1.toInt32 P) rfl (fun _ => rfl) (fun _ => rfl) (Nat.le_of_ble_eq_true rfl) rfl rfl (fun x26 => ?_)
      refine s_goto (pc := 29) 33 dX11_whyNot_29 rfl ?_
      refine s_sub [0] rfl ?_
      exact Mo_whyNot_33_sem hG x26 P
def Mo_turns  (v1 : Int32) (v2 : Int32) (P : PH) : Option (PH) :=
  gdI (((8 : Int32) + ((4 : Int32) * v1)) + (3 : Int32)) 512 <|
  (Mo_face v2 P).bind fun (x15 : Int32) =>
  gdI (((8 : Int32) + ((4 : Int32) * v1)) + (3 : Int32)) 512 <|
  (some (sI P 88 (((8 : Int32) + ((4 : Int32) * v1)) + (3 : Int32)).toNatClampNeg ((P.1 88 (((8 : Int32) + ((4 : Int32) * v1)) + (3 : Int32)).toNatClampNeg) ^^^ x15))).bind fun (P19 : PH) =>
  some P19
set_option maxRecDepth 100000 in
set_option maxHeartbeats 4000000 in
theorem Mo_turns_ok {G : GT} {l : Launch} (hG : GOK G l)  (v1 : Int32) (v2 : Int32) (P : PH) : OkN G l yX11_turns miX11_turns 0 0 tVH [.ref (gA G 1), .int v1, .int v2] P (Mo_turns v1 v2 P) := by
  refine okN_of hG _ [(0, .ref (gA G 1)), (1, .int v1), (2, .int v2)] rfl rfl rfl (Nat.le_of_ble_eq_true rfl) rfl ?_
  unfold Mo_turns
  refine s_aload_n (pc := 0) 0 dX11_turns_0 rfl rfl ?_
  refine s_getR (pc := 1) 88 dX11_turns_1 (fi_X11_9 hG) kd_1 rfl ?_
  refine s_bipush (pc := 4) (v := 8) dX11_turns_4 rfl ?_
  refine s_iconst (pc := 6) (v := 4) dX11_turns_6 rfl ?_
  refine s_iload_n (pc := 7) 1 dX11_turns_7 rfl rfl ?_
  refine s_imul (pc := 8) dX11_turns_8 ?_
  refine s_iadd (pc := 9) dX11_turns_9 ?_
  refine s_iconst (pc := 10) (v := 3) dX11_turns_10 rfl ?_
  refine s_iadd (pc := 11) dX11_turns_11 ?_
  refine s_dup2 (pc := 12) dX11_turns_12 rfl rfl ?_
  refine s_iald (pc := 13) 512 dX11_turns_13 kd_88 ln_88 ?_
  refine s_iload_n (pc := 14) 2 dX11_turns_14 rfl rfl ?_
  refine s_callS (k := 0) (n := 0) (pc := 15) [.int v2] (fun x15 => .int x15 :: [.int (P.1 88 (((8 : Int32) + ((4 : Int32) * v1)) + (3 : Int32)).toNatClampNeg), .int (((8 : Int32) + ((4 : Int32) * v1)) + (3 : Int32)), .ref (gA G 88)]) (fun _ => P) dX11_turns_15 (cS_X11_336 hG) (Nat.le_of_ble_eq_true rfl) rfl (Mo_face_ok hG v2 P) rfl (fun _ => rfl) (fun _ => rfl) (Nat.le_of_ble_eq_true rfl) rfl rfl (fun x15 => ?_)
  refine s_ixor (pc := 18) dX11_turns_18 ?_
  refine s_iast (pc := 19) 512 dX11_turns_19 kd_88 ln_88 ?_
  refine s_letP (fun P19 => ?_)
  exact s_vret (pc := 20) dX11_turns_20 rfl rfl
def Mo_goes  (v1 : Int32) (P : PH) : Option (PH) :=
  (Mo_hole P).bind fun (x6 : Int32) =>
  (Mo_find 88 x6 v1 P).bind fun (x10 : Int32) =>
  gdI (6 : Int32) 512 <|
  (Mo_isOver (P.1 88 (6 : Int32).toNatClampNeg) P).bind fun (x21 : Int32) =>
  (Mo_turns x10 x21 P).bind fun (x24 : PH) =>
  gdI (6 : Int32) 512 <|
  gdI ((392 : Int32) + (x24.1 88 (6 : Int32).toNatClampNeg)) 512 <|
  (some (sI x24 88 ((392 : Int32) + (x24.1 88 (6 : Int32).toNatClampNeg)).toNatClampNeg v1)).bind fun (P43 : PH) =>
  gdI (6 : Int32) 512 <|
  gdI (6 : Int32) 512 <|
  (some (sI P43 88 (6 : Int32).toNatClampNeg ((P43.1 88 (6 : Int32).toNatClampNeg) + (1 : Int32)))).bind fun (P54 : PH) =>
  some P54
set_option maxRecDepth 100000 in
set_option maxHeartbeats 4000000 in
theorem Mo_goes_ok {G : GT} {l : Launch} (hG : GOK G l)  (v1 : Int32) (P : PH) : OkN G l yX11_goes miX11_goes 0 0 tVH [.ref (gA G 1), .int v1] P (Mo_goes v1 P) := by
  refine okN_of hG _ [(0, .ref (gA G 1)), (1, .int v1)] rfl rfl rfl (Nat.le_of_ble_eq_true rfl) rfl ?_
  unfold Mo_goes
  refine s_aload_n (pc := 0) 0 dX11_goes_0 rfl rfl ?_
  refine s_aload_n (pc := 1) 0 dX11_goes_1 rfl rfl ?_
  refine s_getR (pc := 2) 88 dX11_goes_2 (fi_X11_9 hG) kd_1 rfl ?_
  refine s_aload_n (pc := 5) 0 dX11_goes_5 rfl rfl ?_
  refine s_callV (k := 0) (n := 0) (pc := 6) [] (fun x6 => .int x6 :: [.ref (gA G 88), .ref (gA G 1)]) (fun _ => P) dX11_goes_6 (cV_X11_330 hG) (Nat.le_of_ble_eq_true rfl) rfl kd_1 (Mo_hole_ok hG P) rfl (fun _ => rfl) (fun _ => rfl) (Nat.le_of_ble_eq_true rfl) rfl rfl (fun x6 => ?_)
  refine s_iload_n (pc := 9) 1 dX11_goes_9 rfl rfl ?_
  refine s_callS (k := 0) (n := 0) (pc := 10) [.ref (gA G 88), .int x6, .int v1] (fun x10 => .int x10 :: [.ref (gA G 1)]) (fun _ => P) dX11_goes_10 (cS_X11_236 hG) (Nat.le_of_ble_eq_true rfl) rfl (Mo_find_ok hG 88 ⟨kd_88, ln_88⟩ x6 v1 P) rfl (fun _ => rfl) (fun _ => rfl) (Nat.le_of_ble_eq_true rfl) rfl rfl (fun x10 => ?_)
  refine s_aload_n (pc := 13) 0 dX11_goes_13 rfl rfl ?_
  refine s_aload_n (pc := 14) 0 dX11_goes_14 rfl rfl ?_
  refine s_getR (pc := 15) 88 dX11_goes_15 (fi_X11_9 hG) kd_1 rfl ?_
  refine s_bipush (pc := 18) (v := 6) dX11_goes_18 rfl ?_
  refine s_iald (pc := 20) 512 dX11_goes_20 kd_88 ln_88 ?_
  refine s_callV (k := 0) (n := 0) (pc := 21) [.int (P.1 88 (6 : Int32).toNatClampNeg)] (fun x21 => .int x21 :: [.int x10, .ref (gA G 1)]) (fun _ => P) dX11_goes_21 (cV_X11_333 hG) (Nat.le_of_ble_eq_true rfl) rfl kd_1 (Mo_isOver_ok hG (P.1 88 (6 : Int32).toNatClampNeg) P) rfl (fun _ => rfl) (fun _ => rfl) (Nat.le_of_ble_eq_true rfl) rfl rfl (fun x21 => ?_)
  refine s_callV (k := 0) (n := 0) (pc := 24) [.int x10, .int x21] (fun _ => []) (fun x24 => x24) dX11_goes_24 (cV_X11_340 hG) (Nat.le_of_ble_eq_true rfl) rfl kd_1 (Mo_turns_ok hG x10 x21 P) rfl (fun _ => rfl) (fun _ => rfl) (Nat.le_of_ble_eq_true rfl) rfl rfl (fun x24 => ?_)
  refine s_aload_n (pc := 27) 0 dX11_goes_27 rfl rfl ?_
  refine s_getR (pc := 28) 88 dX11_goes_28 (fi_X11_9 hG) kd_1 rfl ?_
  refine s_sipush (pc := 31) (v := 392) dX11_goes_31 rfl ?_
  refine s_aload_n (pc := 34) 0 dX11_goes_34 rfl rfl ?_
  refine s_getR (pc := 35) 88 dX11_goes_35 (fi_X11_9 hG) kd_1 rfl ?_
  refine s_bipush (pc := 38) (v := 6) dX11_goes_38 rfl ?_
  refine s_iald (pc := 40) 512 dX11_goes_40 kd_88 ln_88 ?_
  refine s_iadd (pc := 41) dX11_goes_41 ?_
  refine s_iload_n (pc := 42) 1 dX11_goes_42 rfl rfl ?_
  refine s_iast (pc := 43) 512 dX11_goes_43 kd_88 ln_88 ?_
  refine s_letP (fun P43 => ?_)
  refine s_aload_n (pc := 44) 0 dX11_goes_44 rfl rfl ?_
  refine s_getR (pc := 45) 88 dX11_goes_45 (fi_X11_9 hG) kd_1 rfl ?_
  refine s_bipush (pc := 48) (v := 6) dX11_goes_48 rfl ?_
  refine s_dup2 (pc := 50) dX11_goes_50 rfl rfl ?_
  refine s_iald (pc := 51) 512 dX11_goes_51 kd_88 ln_88 ?_
  refine s_iconst (pc := 52) (v := 1) dX11_goes_52 rfl ?_
  refine s_iadd (pc := 53) dX11_goes_53 ?_
  refine s_iast (pc := 54) 512 dX11_goes_54 kd_88 ln_88 ?_
  refine s_letP (fun P54 => ?_)
  exact s_vret (pc := 55) dX11_goes_55 rfl rfl
def Mo_backs   (P : PH) : Option (PH) :=
  gdI (6 : Int32) 512 <|
  gdI (6 : Int32) 512 <|
  (some (sI P 88 (6 : Int32).toNatClampNeg ((P.1 88 (6 : Int32).toNatClampNeg) - (1 : Int32)))).bind fun (P10 : PH) =>
  (Mo_hole P10).bind fun (x17 : Int32) =>
  gdI (6 : Int32) 512 <|
  gdI ((392 : Int32) + (P10.1 88 (6 : Int32).toNatClampNeg)) 512 <|
  (Mo_find 88 x17 (P10.1 88 ((392 : Int32) + (P10.1 88 (6 : Int32).toNatClampNeg)).toNatClampNeg) P10).bind fun (x36 : Int32) =>
  gdI (6 : Int32) 512 <|
  (Mo_isOver (P10.1 88 (6 : Int32).toNatClampNeg) P10).bind fun (x47 : Int32) =>
  (Mo_turns x36 x47 P10).bind fun (x50 : PH) =>
  some x50
set_option maxRecDepth 100000 in
set_option maxHeartbeats 4000000 in
theorem Mo_backs_ok {G : GT} {l : Launch} (hG : GOK G l)   (P : PH) : OkN G l yX11_backs miX11_backs 0 0 tVH [.ref (gA G 1)] P (Mo_backs P) := by
  refine okN_of hG _ [(0, .ref (gA G 1))] rfl rfl rfl (Nat.le_of_ble_eq_true rfl) rfl ?_
  unfold Mo_backs
  refine s_aload_n (pc := 0) 0 dX11_backs_0 rfl rfl ?_
  refine s_getR (pc := 1) 88 dX11_backs_1 (fi_X11_9 hG) kd_1 rfl ?_
  refine s_bipush (pc := 4) (v := 6) dX11_backs_4 rfl ?_
  refine s_dup2 (pc := 6) dX11_backs_6 rfl rfl ?_
  refine s_iald (pc := 7) 512 dX11_backs_7 kd_88 ln_88 ?_
  refine s_iconst (pc := 8) (v := 1) dX11_backs_8 rfl ?_
  refine s_isub (pc := 9) dX11_backs_9 ?_
  refine s_iast (pc := 10) 512 dX11_backs_10 kd_88 ln_88 ?_
  refine s_letP (fun P10 => ?_)
  refine s_aload_n (pc := 11) 0 dX11_backs_11 rfl rfl ?_
  refine s_aload_n (pc := 12) 0 dX11_backs_12 rfl rfl ?_
  refine s_getR (pc := 13) 88 dX11_backs_13 (fi_X11_9 hG) kd_1 rfl ?_
  refine s_aload_n (pc := 16) 0 dX11_backs_16 rfl rfl ?_
  refine s_callV (k := 0) (n := 0) (pc := 17) [] (fun x17 => .int x17 :: [.ref (gA G 88), .ref (gA G 1)]) (fun _ => P10) dX11_backs_17 (cV_X11_330 hG) (Nat.le_of_ble_eq_true rfl) rfl kd_1 (Mo_hole_ok hG P10) rfl (fun _ => rfl) (fun _ => rfl) (Nat.le_of_ble_eq_true rfl) rfl rfl (fun x17 => ?_)
  refine s_aload_n (pc := 20) 0 dX11_backs_20 rfl rfl ?_
  refine s_getR (pc := 21) 88 dX11_backs_21 (fi_X11_9 hG) kd_1 rfl ?_
  refine s_sipush (pc := 24) (v := 392) dX11_backs_24 rfl ?_
  refine s_aload_n (pc := 27) 0 dX11_backs_27 rfl rfl ?_
  refine s_getR (pc := 28) 88 dX11_backs_28 (fi_X11_9 hG) kd_1 rfl ?_
  refine s_bipush (pc := 31) (v := 6) dX11_backs_31 rfl ?_
  refine s_iald (pc := 33) 512 dX11_backs_33 kd_88 ln_88 ?_
  refine s_iadd (pc := 34) dX11_backs_34 ?_
  refine s_iald (pc := 35) 512 dX11_backs_35 kd_88 ln_88 ?_
  refine s_callS (k := 0) (n := 0) (pc := 36) [.ref (gA G 88), .int x17, .int (P10.1 88 ((392 : Int32) + (P10.1 88 (6 : Int32).toNatClampNeg)).toNatClampNeg)] (fun x36 => .int x36 :: [.ref (gA G 1)]) (fun _ => P10) dX11_backs_36 (cS_X11_236 hG) (Nat.le_of_ble_eq_true rfl) rfl (Mo_find_ok hG 88 ⟨kd_88, ln_88⟩ x17 (P10.1 88 ((392 : Int32) + (P10.1 88 (6 : Int32).toNatClampNeg)).toNatClampNeg) P10) rfl (fun _ => rfl) (fun _ => rfl) (Nat.le_of_ble_eq_true rfl) rfl rfl (fun x36 => ?_)
  refine s_aload_n (pc := 39) 0 dX11_backs_39 rfl rfl ?_
  refine s_aload_n (pc := 40) 0 dX11_backs_40 rfl rfl ?_
  refine s_getR (pc := 41) 88 dX11_backs_41 (fi_X11_9 hG) kd_1 rfl ?_
  refine s_bipush (pc := 44) (v := 6) dX11_backs_44 rfl ?_
  refine s_iald (pc := 46) 512 dX11_backs_46 kd_88 ln_88 ?_
  refine s_callV (k := 0) (n := 0) (pc := 47) [.int (P10.1 88 (6 : Int32).toNatClampNeg)] (fun x47 => .int x47 :: [.int x36, .ref (gA G 1)]) (fun _ => P10) dX11_backs_47 (cV_X11_333 hG) (Nat.le_of_ble_eq_true rfl) rfl kd_1 (Mo_isOver_ok hG (P10.1 88 (6 : Int32).toNatClampNeg) P10) rfl (fun _ => rfl) (fun _ => rfl) (Nat.le_of_ble_eq_true rfl) rfl rfl (fun x47 => ?_)
  refine s_callV (k := 0) (n := 0) (pc := 50) [.int x36, .int x47] (fun _ => []) (fun x50 => x50) dX11_backs_50 (cV_X11_340 hG) (Nat.le_of_ble_eq_true rfl) rfl kd_1 (Mo_turns_ok hG x36 x47 P10) rfl (fun _ => rfl) (fun _ => rfl) (Nat.le_of_ble_eq_true rfl) rfl rfl (fun x50 => ?_)
  exact s_vret (pc := 53) dX11_backs_53 rfl rfl
def Mo_begin_24   (v1 : Int32) (v2 : Int32) (v3 : Int32) (s0 : Int32) (P : PH) : Option (PH) :=
  (some (sI P 1 5 s0)).bind fun (P24 : PH) =>
  if (P24.1 1 5) ≤ 0 then
    gdI (1 : Int32) 512 <|
    gdI (2 : Int32) 512 <|
    gdI (1 : Int32) 512 <|
    (some (sI P24 88 (1 : Int32).toNatClampNeg ((P24.1 88 (1 : Int32).toNatClampNeg) + (P24.1 88 (2 : Int32).toNatClampNeg)))).bind fun (P49 : PH) =>
    gdI (2 : Int32) 512 <|
    (some (sI P49 88 (2 : Int32).toNatClampNeg (1 : Int32))).bind fun (P56 : PH) =>
    gdI (3 : Int32) 512 <|
    (some (sI P56 88 (3 : Int32).toNatClampNeg v2)).bind fun (P63 : PH) =>
    gdI (4 : Int32) 512 <|
    (some (sI P63 88 (4 : Int32).toNatClampNeg v1)).bind fun (P70 : PH) =>
    if v3 = 0 then
      gdI (5 : Int32) 512 <|
      (some (sI P70 88 (5 : Int32).toNatClampNeg (0 : Int32))).bind fun (P85 : PH) =>
      gdI (6 : Int32) 512 <|
      (some (sI P85 88 (6 : Int32).toNatClampNeg (0 : Int32))).bind fun (P93 : PH) =>
      some P93
    else
      gdI (5 : Int32) 512 <|
      (some (sI P70 88 (5 : Int32).toNatClampNeg (1 : Int32))).bind fun (P85 : PH) =>
      gdI (6 : Int32) 512 <|
      (some (sI P85 88 (6 : Int32).toNatClampNeg (0 : Int32))).bind fun (P93 : PH) =>
      some P93
  else
    some P24
set_option maxRecDepth 100000 in
set_option maxHeartbeats 4000000 in
theorem Mo_begin_24_sem {G : GT} {l : Launch} (hG : GOK G l)  (v1 : Int32) (v2 : Int32) (v3 : Int32) (s0 : Int32) (P : PH)   : Sem G l miX11_begin 0 0 (rn tVH) 24 [(0, .ref (gA G 1)), (1, .int v1), (2, .int v2), (3, .int v3)] [.int s0, .ref (gA G 1)] P (Mo_begin_24 v1 v2 v3 s0 P) := by
  unfold Mo_begin_24
  refine s_putI (pc := 24) dX11_begin_24 (fp_X11_86 hG) kd_1 ?_
  refine s_letP (fun P24 => ?_)
  refine s_aload_n (pc := 27) 0 dX11_begin_27 rfl rfl ?_
  refine s_getI (pc := 28) dX11_begin_28 (fi_X11_86 hG) kd_1 ?_
  refine s_if_le (pc := 31) 35 dX11_begin_31 rfl ?_ ?_
  · refine s_aload_n (pc := 35) 0 dX11_begin_35 rfl rfl ?_
    refine s_getR (pc := 36) 88 dX11_begin_36 (fi_X11_9 hG) kd_1 rfl ?_
    refine s_iconst (pc := 39) (v := 1) dX11_begin_39 rfl ?_
    refine s_dup2 (pc := 40) dX11_begin_40 rfl rfl ?_
    refine s_iald (pc := 41) 512 dX11_begin_41 kd_88 ln_88 ?_
    refine s_aload_n (pc := 42) 0 dX11_begin_42 rfl rfl ?_
    refine s_getR (pc := 43) 88 dX11_begin_43 (fi_X11_9 hG) kd_1 rfl ?_
    refine s_iconst (pc := 46) (v := 2) dX11_begin_46 rfl ?_
    refine s_iald (pc := 47) 512 dX11_begin_47 kd_88 ln_88 ?_
    refine s_iadd (pc := 48) dX11_begin_48 ?_
    refine s_iast (pc := 49) 512 dX11_begin_49 kd_88 ln_88 ?_
    refine s_letP (fun P49 => ?_)
    refine s_aload_n (pc := 50) 0 dX11_begin_50 rfl rfl ?_
    refine s_getR (pc := 51) 88 dX11_begin_51 (fi_X11_9 hG) kd_1 rfl ?_
    refine s_iconst (pc := 54) (v := 2) dX11_begin_54 rfl ?_
    refine s_iconst (pc := 55) (v := 1) dX11_begin_55 rfl ?_
    refine s_iast (pc := 56) 512 dX11_begin_56 kd_88 ln_88 ?_
    refine s_letP (fun P56 => ?_)
    refine s_aload_n (pc := 57) 0 dX11_begin_57 rfl rfl ?_
    refine s_getR (pc := 58) 88 dX11_begin_58 (fi_X11_9 hG) kd_1 rfl ?_
    refine s_iconst (pc := 61) (v := 3) dX11_begin_61 rfl ?_
    refine s_iload_n (pc := 62) 2 dX11_begin_62 rfl rfl ?_
    refine s_iast (pc := 63) 512 dX11_begin_63 kd_88 ln_88 ?_
    refine s_letP (fun P63 => ?_)
    refine s_aload_n (pc := 64) 0 dX11_begin_64 rfl rfl ?_
    refine s_getR (pc := 65) 88 dX11_begin_65 (fi_X11_9 hG) kd_1 rfl ?_
    refine s_iconst (pc := 68) (v := 4) dX11_begin_68 rfl ?_
    refine s_iload_n (pc := 69) 1 dX11_begin_69 rfl rfl ?_
    refine s_iast (pc := 70) 512 dX11_begin_70 kd_88 ln_88 ?_
    refine s_letP (fun P70 => ?_)
    refine s_aload_n (pc := 71) 0 dX11_begin_71 rfl rfl ?_
    refine s_getR (pc := 72) 88 dX11_begin_72 (fi_X11_9 hG) kd_1 rfl ?_
    refine s_iconst (pc := 75) (v := 5) dX11_begin_75 rfl ?_
    refine s_iload_n (pc := 76) 3 dX11_begin_76 rfl rfl ?_
    refine s_if_eq (pc := 77) 84 dX11_begin_77 rfl ?_ ?_
    · refine s_iconst (pc := 84) (v := 0) dX11_begin_84 rfl ?_
      refine s_iast (pc := 85) 512 dX11_begin_85 kd_88 ln_88 ?_
      refine s_letP (fun P85 => ?_)
      refine s_aload_n (pc := 86) 0 dX11_begin_86 rfl rfl ?_
      refine s_getR (pc := 87) 88 dX11_begin_87 (fi_X11_9 hG) kd_1 rfl ?_
      refine s_bipush (pc := 90) (v := 6) dX11_begin_90 rfl ?_
      refine s_iconst (pc := 92) (v := 0) dX11_begin_92 rfl ?_
      refine s_iast (pc := 93) 512 dX11_begin_93 kd_88 ln_88 ?_
      refine s_letP (fun P93 => ?_)
      exact s_vret (pc := 94) dX11_begin_94 rfl rfl
    · refine s_iconst (pc := 80) (v := 1) dX11_begin_80 rfl ?_
      refine s_goto (pc := 81) 85 dX11_begin_81 rfl ?_
      refine s_iast (pc := 85) 512 dX11_begin_85 kd_88 ln_88 ?_
      refine s_letP (fun P85 => ?_)
      refine s_aload_n (pc := 86) 0 dX11_begin_86 rfl rfl ?_
      refine s_getR (pc := 87) 88 dX11_begin_87 (fi_X11_9 hG) kd_1 rfl ?_
      refine s_bipush (pc := 90) (v := 6) dX11_begin_90 rfl ?_
      refine s_iconst (pc := 92) (v := 0) dX11_begin_92 rfl ?_
      refine s_iast (pc := 93) 512 dX11_begin_93 kd_88 ln_88 ?_
      refine s_letP (fun P93 => ?_)
      exact s_vret (pc := 94) dX11_begin_94 rfl rfl
  · exact s_vret (pc := 34) dX11_begin_34 rfl rfl
def Mo_begin  (v1 : Int32) (v2 : Int32) (v3 : Int32) (P : PH) : Option (PH) :=
  (Mo_isHole v1 P).bind fun (x2 : Int32) =>
  if x2 = 0 then
    Mo_begin_24 v1 v2 v3 (1 : Int32) P
  else
    (Mo_isInk v2 P).bind fun (x13 : Int32) =>
    if x13 = 0 then
      Mo_begin_24 v1 v2 v3 (2 : Int32) P
    else
      Mo_begin_24 v1 v2 v3 (0 : Int32) P
set_option maxRecDepth 100000 in
set_option maxHeartbeats 4000000 in
theorem Mo_begin_ok {G : GT} {l : Launch} (hG : GOK G l)  (v1 : Int32) (v2 : Int32) (v3 : Int32) (P : PH) : OkN G l yX11_begin miX11_begin 0 0 tVH [.ref (gA G 1), .int v1, .int v2, .int v3] P (Mo_begin v1 v2 v3 P) := by
  refine okN_of hG _ [(0, .ref (gA G 1)), (1, .int v1), (2, .int v2), (3, .int v3)] rfl rfl rfl (Nat.le_of_ble_eq_true rfl) rfl ?_
  unfold Mo_begin
  refine s_aload_n (pc := 0) 0 dX11_begin_0 rfl rfl ?_
  refine s_iload_n (pc := 1) 1 dX11_begin_1 rfl rfl ?_
  refine s_callS (k := 0) (n := 0) (pc := 2) [.int v1] (fun x2 => .int x2 :: [.ref (gA G 1)]) (fun _ => P) dX11_begin_2 (cS_X11_273 hG) (Nat.le_of_ble_eq_true rfl) rfl (Mo_isHole_ok hG v1 P) rfl (fun _ => rfl) (fun _ => rfl) (Nat.le_of_ble_eq_true rfl) rfl rfl (fun x2 => ?_)
  refine s_if_ne (pc := 5) 12 dX11_begin_5 rfl ?_ ?_
  · refine s_iconst (pc := 8) (v := 1) dX11_begin_8 rfl ?_
    refine s_goto (pc := 9) 24 dX11_begin_9 rfl ?_
    exact Mo_begin_24_sem hG v1 v2 v3 (1 : Int32) P
  · refine s_iload_n (pc := 12) 2 dX11_begin_12 rfl rfl ?_
    refine s_callS (k := 0) (n := 0) (pc := 13) [.int v2] (fun x13 => .int x13 :: [.ref (gA G 1)]) (fun _ => P) dX11_begin_13 (cS_X11_280 hG) (Nat.le_of_ble_eq_true rfl) rfl (Mo_isInk_ok hG v2 P) rfl (fun _ => rfl) (fun _ => rfl) (Nat.le_of_ble_eq_true rfl) rfl rfl (fun x13 => ?_)
    refine s_if_eq (pc := 16) 23 dX11_begin_16 rfl ?_ ?_
    · refine s_iconst (pc := 23) (v := 2) dX11_begin_23 rfl ?_
      exact Mo_begin_24_sem hG v1 v2 v3 (2 : Int32) P
    · refine s_iconst (pc := 19) (v := 0) dX11_begin_19 rfl ?_
      refine s_goto (pc := 20) 24 dX11_begin_20 rfl ?_
      exact Mo_begin_24_sem hG v1 v2 v3 (0 : Int32) P
def Mo_cut_13   (s0 : Int32) (P : PH) : Option (Int32 × PH) :=
  (some (sI P 1 5 s0)).bind fun (P13 : PH) =>
  if (P13.1 1 5) ≤ 0 then
    gdI (1 : Int32) 512 <|
    gdI (1 : Int32) 512 <|
    (some (sI P13 88 (1 : Int32).toNatClampNeg ((P13.1 88 (1 : Int32).toNatClampNeg) + (1 : Int32)))).bind fun (P34 : PH) =>
    gdI (2 : Int32) 512 <|
    (some (sI P34 88 (2 : Int32).toNatClampNeg (0 : Int32))).bind fun (P41 : PH) =>
    gdI (6 : Int32) 512 <|
    some (P41.1 88 (6 : Int32).toNatClampNeg, P41)
  else
    some ((0 : Int32), P13)
set_option maxRecDepth 100000 in
set_option maxHeartbeats 4000000 in
theorem Mo_cut_13_sem {G : GT} {l : Launch} (hG : GOK G l)  (s0 : Int32) (P : PH)   : Sem G l miX11_cut 0 0 (rn tIH) 13 [(0, .ref (gA G 1))] [.int s0, .ref (gA G 1)] P (Mo_cut_13 s0 P) := by
  unfold Mo_cut_13
  refine s_putI (pc := 13) dX11_cut_13 (fp_X11_86 hG) kd_1 ?_
  refine s_letP (fun P13 => ?_)
  refine s_aload_n (pc := 16) 0 dX11_cut_16 rfl rfl ?_
  refine s_getI (pc := 17) dX11_cut_17 (fi_X11_86 hG) kd_1 ?_
  refine s_if_le (pc := 20) 25 dX11_cut_20 rfl ?_ ?_
  · refine s_aload_n (pc := 25) 0 dX11_cut_25 rfl rfl ?_
    refine s_getR (pc := 26) 88 dX11_cut_26 (fi_X11_9 hG) kd_1 rfl ?_
    refine s_iconst (pc := 29) (v := 1) dX11_cut_29 rfl ?_
    refine s_dup2 (pc := 30) dX11_cut_30 rfl rfl ?_
    refine s_iald (pc := 31) 512 dX11_cut_31 kd_88 ln_88 ?_
    refine s_iconst (pc := 32) (v := 1) dX11_cut_32 rfl ?_
    refine s_iadd (pc := 33) dX11_cut_33 ?_
    refine s_iast (pc := 34) 512 dX11_cut_34 kd_88 ln_88 ?_
    refine s_letP (fun P34 => ?_)
    refine s_aload_n (pc := 35) 0 dX11_cut_35 rfl rfl ?_
    refine s_getR (pc := 36) 88 dX11_cut_36 (fi_X11_9 hG) kd_1 rfl ?_
    refine s_iconst (pc := 39) (v := 2) dX11_cut_39 rfl ?_
    refine s_iconst (pc := 40) (v := 0) dX11_cut_40 rfl ?_
    refine s_iast (pc := 41) 512 dX11_cut_41 kd_88 ln_88 ?_
    refine s_letP (fun P41 => ?_)
    refine s_aload_n (pc := 42) 0 dX11_cut_42 rfl rfl ?_
    refine s_getR (pc := 43) 88 dX11_cut_43 (fi_X11_9 hG) kd_1 rfl ?_
    refine s_bipush (pc := 46) (v := 6) dX11_cut_46 rfl ?_
    refine s_iald (pc := 48) 512 dX11_cut_48 kd_88 ln_88 ?_
    exact s_iret (pc := 49) dX11_cut_49 rfl rfl
  · refine s_iconst (pc := 23) (v := 0) dX11_cut_23 rfl ?_
    exact s_iret (pc := 24) dX11_cut_24 rfl rfl
def Mo_cut   (P : PH) : Option (Int32 × PH) :=
  (Mo_isThere P).bind fun (x2 : Int32) =>
  if x2 = 0 then
    Mo_cut_13 (1 : Int32) P
  else
    Mo_cut_13 (0 : Int32) P
set_option maxRecDepth 100000 in
set_option maxHeartbeats 4000000 in
theorem Mo_cut_ok {G : GT} {l : Launch} (hG : GOK G l)   (P : PH) : OkN G l yX11_cut miX11_cut 0 0 tIH [.ref (gA G 1)] P (Mo_cut P) := by
  refine okN_of hG _ [(0, .ref (gA G 1))] rfl rfl rfl (Nat.le_of_ble_eq_true rfl) rfl ?_
  unfold Mo_cut
  refine s_aload_n (pc := 0) 0 dX11_cut_0 rfl rfl ?_
  refine s_aload_n (pc := 1) 0 dX11_cut_1 rfl rfl ?_
  refine s_callV (k := 0) (n := 0) (pc := 2) [] (fun x2 => .int x2 :: [.ref (gA G 1)]) (fun _ => P) dX11_cut_2 (cV_X11_326 hG) (Nat.le_of_ble_eq_true rfl) rfl kd_1 (Mo_isThere_ok hG P) rfl (fun _ => rfl) (fun _ => rfl) (Nat.le_of_ble_eq_true rfl) rfl rfl (fun x2 => ?_)
  refine s_if_eq (pc := 5) 12 dX11_cut_5 rfl ?_ ?_
  · refine s_iconst (pc := 12) (v := 1) dX11_cut_12 rfl ?_
    exact Mo_cut_13_sem hG (1 : Int32) P
  · refine s_iconst (pc := 8) (v := 0) dX11_cut_8 rfl ?_
    refine s_goto (pc := 9) 13 dX11_cut_9 rfl ?_
    exact Mo_cut_13_sem hG (0 : Int32) P
def Mo_may_14   (v1 : Int32) (s0 : Int32) (P : PH) : Option (Int32 × PH) :=
  (some (sI P 1 5 s0)).bind fun (P14 : PH) =>
  if (P14.1 1 5) ≤ 0 then
    (Mo_whyNot v1.toInt64 P14).bind fun (x31 : Int32) =>
    some (x31, P14)
  else
    some ((0 : Int32), P14)
set_option maxRecDepth 100000 in
set_option maxHeartbeats 4000000 in
theorem Mo_may_14_sem {G : GT} {l : Launch} (hG : GOK G l)  (v1 : Int32) (s0 : Int32) (P : PH)   : Sem G l miX11_may 0 0 (rn tIH) 14 [(0, .ref (gA G 1)), (1, .int v1)] [.int s0, .ref (gA G 1)] P (Mo_may_14 v1 s0 P) := by
  unfold Mo_may_14
  refine s_putI (pc := 14) dX11_may_14 (fp_X11_86 hG) kd_1 ?_
  refine s_letP (fun P14 => ?_)
  refine s_aload_n (pc := 17) 0 dX11_may_17 rfl rfl ?_
  refine s_getI (pc := 18) dX11_may_18 (fi_X11_86 hG) kd_1 ?_
  refine s_if_le (pc := 21) 28 dX11_may_21 rfl ?_ ?_
  · refine s_aload_n (pc := 28) 0 dX11_may_28 rfl rfl ?_
    refine s_iload_n (pc := 29) 1 dX11_may_29 rfl rfl ?_
    refine s_i2l (pc := 30) dX11_may_30 ?_
    refine s_callV (k := 0) (n := 0) (pc := 31) [.long (v1.toInt64)] (fun x31 => .int x31 :: []) (fun _ => P14) dX11_may_31 (cV_X11_344 hG) (Nat.le_of_ble_eq_true rfl) rfl kd_1 (Mo_whyNot_ok hG v1.toInt64 P14) rfl (fun _ => rfl) (fun _ => rfl) (Nat.le_of_ble_eq_true rfl) rfl rfl (fun x31 => ?_)
    exact s_iret (pc := 34) dX11_may_34 rfl rfl
  · refine s_iconst (pc := 24) (v := 0) dX11_may_24 rfl ?_
    refine s_goto (pc := 25) 34 dX11_may_25 rfl ?_
    exact s_iret (pc := 34) dX11_may_34 rfl rfl
def Mo_may  (v1 : Int32) (P : PH) : Option (Int32 × PH) :=
  (Mo_isWay v1.toInt64 P).bind fun (x3 : Int32) =>
  if x3 = 0 then
    Mo_may_14 v1 (1 : Int32) P
  else
    Mo_may_14 v1 (0 : Int32) P
set_option maxRecDepth 100000 in
set_option maxHeartbeats 4000000 in
theorem Mo_may_ok {G : GT} {l : Launch} (hG : GOK G l)  (v1 : Int32) (P : PH) : OkN G l yX11_may miX11_may 0 0 tIH [.ref (gA G 1), .int v1] P (Mo_may v1 P) := by
  refine okN_of hG _ [(0, .ref (gA G 1)), (1, .int v1)] rfl rfl rfl (Nat.le_of_ble_eq_true rfl) rfl ?_
  unfold Mo_may
  refine s_aload_n (pc := 0) 0 dX11_may_0 rfl rfl ?_
  refine s_iload_n (pc := 1) 1 dX11_may_1 rfl rfl ?_
  refine s_i2l (pc := 2) dX11_may_2 ?_
  refine s_callS (k := 0) (n := 0) (pc := 3) [.long (v1.toInt64)] (fun x3 => .int x3 :: [.ref (gA G 1)]) (fun _ => P) dX11_may_3 (cS_X11_276 hG) (Nat.le_of_ble_eq_true rfl) rfl (Mo_isWay_ok hG v1.toInt64 P) rfl (fun _ => rfl) (fun _ => rfl) (Nat.le_of_ble_eq_true rfl) rfl rfl (fun x3 => ?_)
  refine s_if_eq (pc := 6) 13 dX11_may_6 rfl ?_ ?_
  · refine s_iconst (pc := 13) (v := 1) dX11_may_13 rfl ?_
    exact Mo_may_14_sem hG v1 (1 : Int32) P
  · refine s_iconst (pc := 9) (v := 0) dX11_may_9 rfl ?_
    refine s_goto (pc := 10) 14 dX11_may_10 rfl ?_
    exact Mo_may_14_sem hG v1 (0 : Int32) P
