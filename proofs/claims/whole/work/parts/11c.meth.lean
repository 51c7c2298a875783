def Mo_goesThrough_296  (r33 : Int32 → Int32 → PH → Option (PH)) (v1 : Int32) (v2 : Int32) (v3 : Int32) (s0 : Int32) (s1 : Int32) (s2 : Int32) (P : PH) : Option (PH) :=
  gdI s2 7 <|
  (some (sI P 97 s2.toNatClampNeg (((s1 + s0) + (8 : Int32)) - ((s1 + s0) + (8 : Int32)) / (8 : Int32) * (8 : Int32)))).bind fun (P303 : PH) =>
  if v3 = (13 : Int32) then
    gdI (v1 - (1 : Int32)) 7 <|
    gdI v1 7 <|
    (some (sI P303 98 v1.toNatClampNeg (-(P303.1 98 (v1 - (1 : Int32)).toNatClampNeg)))).bind fun (P335 : PH) =>
    r33 v1 (v2 + 1) P335
  else
    gdI (v1 - (1 : Int32)) 7 <|
    gdI v1 7 <|
    (some (sI P303 98 v1.toNatClampNeg (P303.1 98 (v1 - (1 : Int32)).toNatClampNeg))).bind fun (P335 : PH) =>
    r33 v1 (v2 + 1) P335
set_option maxRecDepth 100000 in
set_option maxHeartbeats 4000000 in
theorem Mo_goesThrough_296_sem {G : GT} {l : Launch} (hG : GOK G l)  (v1 : Int32) (v2 : Int32) (v3 : Int32) (s0 : Int32) (s1 : Int32) (s2 : Int32) (P : PH)  (r33 : Int32 → Int32 → PH → Option (PH)) (hr33 : ∀ (v1 : Int32) (v2 : Int32) (P : PH), Sem G l miX11_goesThrough 0 0 (rn tVH) 33 [(0, .ref (gA G 1)), (1, .int v1), (2, .int v2)] [] P (r33 v1 v2 P)) : Sem G l miX11_goesThrough 0 0 (rn tVH) 296 [(0, .ref (gA G 1)), (1, .int v1), (2, .int v2), (3, .int v3)] [.int s0, .int s1, .int s2, .ref (gA G 97)] P (Mo_goesThrough_296 r33 v1 v2 v3 s0 s1 s2 P) := by
  unfold Mo_goesThrough_296
  refine s_iadd (pc := 296) dX11_goesThrough_296 ?_
  refine s_bipush (pc := 297) (v := 8) dX11_goesThrough_297 rfl ?_
  refine s_iadd (pc := 299) dX11_goesThrough_299 ?_
  refine s_bipush (pc := 300) (v := 8) dX11_goesThrough_300 rfl ?_
  refine s_irem (pc := 302) dX11_goesThrough_302 (by decide) ?_
  refine s_iast (pc := 303) 7 dX11_goesThrough_303 kd_97 ln_97 ?_
  refine s_letP (fun P303 => ?_)
  refine s_aload_n (pc := 304) 0 dX11_goesThrough_304 rfl rfl ?_
  refine s_getR (pc := 305) 98 dX11_goesThrough_305 (fi_X11_45 hG) kd_1 rfl ?_
  refine s_iload_n (pc := 308) 1 dX11_goesThrough_308 rfl rfl ?_
  refine s_iload_n (pc := 309) 3 dX11_goesThrough_309 rfl rfl ?_
  refine s_bipush (pc := 310) (v := 13) dX11_goesThrough_310 rfl ?_
  refine s_icmp_ne (pc := 312) 327 dX11_goesThrough_312 rfl ?_ ?_
  · refine s_aload_n (pc := 315) 0 dX11_goesThrough_315 rfl rfl ?_
    refine s_getR (pc := 316) 98 dX11_goesThrough_316 (fi_X11_45 hG) kd_1 rfl ?_
    refine s_iload_n (pc := 319) 1 dX11_goesThrough_319 rfl rfl ?_
    refine s_iconst (pc := 320) (v := 1) dX11_goesThrough_320 rfl ?_
    refine s_isub (pc := 321) dX11_goesThrough_321 ?_
    refine s_iald (pc := 322) 7 dX11_goesThrough_322 kd_98 ln_98 ?_
    refine s_ineg (pc := 323) dX11_goesThrough_323 ?_
    refine s_goto (pc := 324) 335 dX11_goesThrough_324 rfl ?_
    refine s_iast (pc := 335) 7 dX11_goesThrough_335 kd_98 ln_98 ?_
    refine s_letP (fun P335 => ?_)
    refine s_iinc (pc := 336) 2 1 [(2, .int (v2 + 1)), (0, .ref (gA G 1)), (1, .int v1), (3, .int v3)] dX11_goesThrough_336 rfl rfl (Nat.le_of_ble_eq_true rfl) rfl ?_
    refine s_goto (pc := 339) 33 dX11_goesThrough_339 rfl ?_
    refine s_sub [1, 2, 0] rfl ?_
    exact hr33 v1 (v2 + 1) P335
  · refine s_aload_n (pc := 327) 0 dX11_goesThrough_327 rfl rfl ?_
    refine s_getR (pc := 328) 98 dX11_goesThrough_328 (fi_X11_45 hG) kd_1 rfl ?_
    refine s_iload_n (pc := 331) 1 dX11_goesThrough_331 rfl rfl ?_
    refine s_iconst (pc := 332) (v := 1) dX11_goesThrough_332 rfl ?_
    refine s_isub (pc := 333) dX11_goesThrough_333 ?_
    refine s_iald (pc := 334) 7 dX11_goesThrough_334 kd_98 ln_98 ?_
    refine s_iast (pc := 335) 7 dX11_goesThrough_335 kd_98 ln_98 ?_
    refine s_letP (fun P335 => ?_)
    refine s_iinc (pc := 336) 2 1 [(2, .int (v2 + 1)), (0, .ref (gA G 1)), (1, .int v1), (3, .int v3)] dX11_goesThrough_336 rfl rfl (Nat.le_of_ble_eq_true rfl) rfl ?_
    refine s_goto (pc := 339) 33 dX11_goesThrough_339 rfl ?_
    refine s_sub [1, 2, 0] rfl ?_
    exact hr33 v1 (v2 + 1) P335
def Mo_goesThrough_117   (v2 : Int32) (v7 : Int32) (P : PH) : Option (PH) :=
  (some (sI P 1 14 v7)).bind fun (P120 : PH) =>
  gdI (((4 : Int32) * v2) + (3 : Int32)) 1600 <|
  (some (sI P120 1 15 (P120.1 94 (((4 : Int32) * v2) + (3 : Int32)).toNatClampNeg))).bind fun (P134 : PH) =>
  some P134
set_option maxRecDepth 100000 in
set_option maxHeartbeats 4000000 in
theorem Mo_goesThrough_117_sem {G : GT} {l : Launch} (hG : GOK G l)  (v2 : Int32) (v7 : Int32) (P : PH)   : Sem G l miX11_goesThrough 0 0 (rn tVH) 117 [(0, .ref (gA G 1)), (2, .int v2), (7, .int v7)] [] P (Mo_goesThrough_117 v2 v7 P) := by
  unfold Mo_goesThrough_117
  refine s_aload_n (pc := 117) 0 dX11_goesThrough_117 rfl rfl ?_
  refine s_iload (pc := 118) 2 dX11_goesThrough_118 rfl ?_
  refine s_putI (pc := 120) dX11_goesThrough_120 (fp_X11_144 hG) kd_1 ?_
  refine s_letP (fun P120 => ?_)
  refine s_aload_n (pc := 123) 0 dX11_goesThrough_123 rfl rfl ?_
  refine s_aload_n (pc := 124) 0 dX11_goesThrough_124 rfl rfl ?_
  refine s_getR (pc := 125) 94 dX11_goesThrough_125 (fi_X11_33 hG) kd_1 rfl ?_
  refine s_iconst (pc := 128) (v := 4) dX11_goesThrough_128 rfl ?_
  refine s_iload_n (pc := 129) 1 dX11_goesThrough_129 rfl rfl ?_
  refine s_imul (pc := 130) dX11_goesThrough_130 ?_
  refine s_iconst (pc := 131) (v := 3) dX11_goesThrough_131 rfl ?_
  refine s_iadd (pc := 132) dX11_goesThrough_132 ?_
  refine s_iald (pc := 133) 1600 dX11_goesThrough_133 kd_94 ln_94 ?_
  refine s_putI (pc := 134) dX11_goesThrough_134 (fp_X11_157 hG) kd_1 ?_
  refine s_letP (fun P134 => ?_)
  exact s_vret (pc := 137) dX11_goesThrough_137 rfl rfl
def Mo_goesThrough_94  (r33 : Int32 → Int32 → PH → Option (PH)) (v1 : Int32) (v2 : Int32) (v4 : Int32) (v5 : Int32)  : Nat → Int32 → PH → Option (PH)
  | 0 => fun _ _ => none
  | n + 1 => fun v6 P =>
    if v4 ≤ v6 then
      r33 v1 (v2 + 1) P
    else
      (Mo_draws v5 P).bind fun (x104 : Int32 × PH) =>
      if x104.1 = 0 then
        Mo_goesThrough_94 r33 v1 v2 v4 v5 n (v6 + 1) x104.2
      else
        Mo_goesThrough_117 v2 x104.1 x104.2
set_option maxRecDepth 100000 in
set_option maxHeartbeats 4000000 in
theorem Mo_goesThrough_94_sem {G : GT} {l : Launch} (hG : GOK G l)  (v1 : Int32) (v2 : Int32) (v4 : Int32) (v5 : Int32)   (r33 : Int32 → Int32 → PH → Option (PH)) (hr33 : ∀ (v1 : Int32) (v2 : Int32) (P : PH), Sem G l miX11_goesThrough 0 0 (rn tVH) 33 [(0, .ref (gA G 1)), (1, .int v1), (2, .int v2)] [] P (r33 v1 v2 P)) : ∀ (n : Nat) (v6 : Int32) (P : PH), Sem G l miX11_goesThrough 0 0 (rn tVH) 94 [(0, .ref (gA G 1)), (1, .int v1), (2, .int v2), (4, .int v4), (5, .int v5), (6, .int v6)] [] P (Mo_goesThrough_94 r33 v1 v2 v4 v5 n v6 P) := by
  intro n
  induction n with
  | zero => intro v6 P; exact s_none rfl
  | succ n ih =>
    intro v6 P
    rw [Mo_goesThrough_94]
    refine s_iload (pc := 94) 5 dX11_goesThrough_94 rfl ?_
    refine s_iload (pc := 96) 3 dX11_goesThrough_96 rfl ?_
    refine s_icmp_ge (pc := 98) 144 dX11_goesThrough_98 rfl ?_ ?_
    · refine s_goto (pc := 144) 336 dX11_goesThrough_144 rfl ?_
      refine s_iinc (pc := 336) 2 1 [(2, .int (v2 + 1)), (0, .ref (gA G 1)), (1, .int v1), (4, .int v4), (5, .int v5), (6, .int v6)] dX11_goesThrough_336 rfl rfl (Nat.le_of_ble_eq_true rfl) rfl ?_
      refine s_goto (pc := 339) 33 dX11_goesThrough_339 rfl ?_
      refine s_sub [1, 2, 0] rfl ?_
      exact hr33 v1 (v2 + 1) P
    · refine s_aload_n (pc := 101) 0 dX11_goesThrough_101 rfl rfl ?_
      refine s_iload (pc := 102) 4 dX11_goesThrough_102 rfl ?_
      refine s_callV (k := 0) (n := 0) (pc := 104) [.int v5] (fun x104 => .int (x104.1) :: []) (fun x104 => x104.2) dX11_goesThrough_104 (cV_X11_242 hG) (Nat.le_of_ble_eq_true rfl) rfl kd_1 (Mo_draws_ok hG v5 P) rfl (fun _ => rfl) (fun _ => rfl) (Nat.le_of_ble_eq_true rfl) rfl rfl (fun x104 => ?_)
      refine s_istore (pc := 107) [(7, .int (x104.1)), (0, .ref (gA G 1)), (1, .int v1), (2, .int v2), (4, .int v4), (5, .int v5), (6, .int v6)] dX11_goesThrough_107 (Nat.le_of_ble_eq_true rfl) rfl ?_
      refine s_iload (pc := 109) 0 dX11_goesThrough_109 rfl ?_
      refine s_if_ne (pc := 111) 117 dX11_goesThrough_111 rfl ?_ ?_
      · refine s_goto (pc := 114) 138 dX11_goesThrough_114 rfl ?_
        refine s_iinc (pc := 138) 6 1 [(6, .int (v6 + 1)), (7, .int (x104.1)), (0, .ref (gA G 1)), (1, .int v1), (2, .int v2), (4, .int v4), (5, .int v5)] dX11_goesThrough_138 rfl rfl (Nat.le_of_ble_eq_true rfl) rfl ?_
        refine s_goto (pc := 141) 94 dX11_goesThrough_141 rfl ?_
        refine s_sub [2, 3, 4, 5, 6, 0] rfl ?_
        exact ih (v6 + 1) x104.2
      · refine s_sub [1, 3, 0] rfl ?_
        exact Mo_goesThrough_117_sem hG v2 x104.1 x104.2
def Mo_goesThrough_33     : Nat → Int32 → Int32 → PH → Option (PH)
  | 0 => fun _ _ _ => none
  | n + 1 => fun v1 v2 P =>
    if (P.1 1 19) ≤ v2 then
      some P
    else
      gdI ((4 : Int32) * v2) 1600 <|
      (some (P.1 94 ((4 : Int32) * v2).toNatClampNeg)).bind fun (u3_49 : Int32) =>
      gdI (((4 : Int32) * v2) + (1 : Int32)) 1600 <|
      (some (P.1 94 (((4 : Int32) * v2) + (1 : Int32)).toNatClampNeg)).bind fun (u4_60 : Int32) =>
      if (8 : Int32) ≤ u3_49 then
        if u3_49 = (8 : Int32) then
          (some (sI P 1 24 u4_60)).bind fun (P156 : PH) =>
          Mo_goesThrough_33  n v1 (v2 + 1) P156
        else
          if u3_49 = (10 : Int32) then
            gdI ((248 : Int32) + u4_60) 512 <|
            (some (sI P 89 ((248 : Int32) + u4_60).toNatClampNeg (1 : Int32))).bind fun (P179 : PH) =>
            Mo_goesThrough_33  n v1 (v2 + 1) P179
          else
            if u3_49 = (9 : Int32) then
              (some (sI P 1 25 u4_60)).bind fun (P192 : PH) =>
              Mo_goesThrough_33  n v1 (v2 + 1) P192
            else
              if u3_49 = (14 : Int32) then
                gdI (v1 - (1 : Int32)) 6 <|
                gdI (v1 - (1 : Int32)) 6 <|
                (some (sI P 96 (v1 - (1 : Int32)).toNatClampNeg ((P.1 96 (v1 - (1 : Int32)).toNatClampNeg) - (1 : Int32)))).bind fun (P215 : PH) =>
                gdI (v1 - (1 : Int32)) 6 <|
                if (P215.1 96 (v1 - (1 : Int32)).toNatClampNeg) ≤ 0 then
                  Mo_goesThrough_33  n (v1 + (-1)) (v2 + 1) P215
                else
                  gdI (v1 - (1 : Int32)) 6 <|
                  (some (P215.1 95 (v1 - (1 : Int32)).toNatClampNeg)).bind fun (u2_235 : Int32) =>
                  Mo_goesThrough_33  n v1 (u2_235 + 1) P215
              else
                gdI v1 6 <|
                (some (sI P 95 v1.toNatClampNeg v2)).bind fun (P251 : PH) =>
                gdI v1 6 <|
                (some (sI P251 96 v1.toNatClampNeg u4_60)).bind fun (P259 : PH) =>
                gdI ((v1 + 1) - (1 : Int32)) 7 <|
                if u3_49 = (12 : Int32) then
                  gdI ((v1 + 1) - (1 : Int32)) 7 <|
                  Mo_goesThrough_296 (Mo_goesThrough_33  n) (v1 + 1) v2 u3_49 ((2 : Int32) * (P259.1 98 ((v1 + 1) - (1 : Int32)).toNatClampNeg)) (P259.1 97 ((v1 + 1) - (1 : Int32)).toNatClampNeg) (v1 + 1) P259
                else
                  Mo_goesThrough_296 (Mo_goesThrough_33  n) (v1 + 1) v2 u3_49 (0 : Int32) (P259.1 97 ((v1 + 1) - (1 : Int32)).toNatClampNeg) (v1 + 1) P259
      else
        gdI v1 7 <|
        gdI v1 7 <|
        (some ((((P.1 97 v1.toNatClampNeg) + ((P.1 98 v1.toNatClampNeg) * u3_49)) + (64 : Int32)) - (((P.1 97 v1.toNatClampNeg) + ((P.1 98 v1.toNatClampNeg) * u3_49)) + (64 : Int32)) / (8 : Int32) * (8 : Int32))).bind fun (u5_89 : Int32) =>
        Mo_goesThrough_94 (Mo_goesThrough_33  n) v1 v2 u4_60 u5_89 bigN (0 : Int32) P
set_option maxRecDepth 100000 in
set_option maxHeartbeats 4000000 in
theorem Mo_goesThrough_33_sem {G : GT} {l : Launch} (hG : GOK G l)      : ∀ (n : Nat) (v1 : Int32) (v2 : Int32) (P : PH), Sem G l miX11_goesThrough 0 0 (rn tVH) 33 [(0, .ref (gA G 1)), (1, .int v1), (2, .int v2)] [] P (Mo_goesThrough_33  n v1 v2 P) := by
  intro n
  induction n with
  | zero => intro v1 v2 P; exact s_none rfl
  | succ n ih =>
    intro v1 v2 P
    rw [Mo_goesThrough_33]
    refine s_iload_n (pc := 33) 2 dX11_goesThrough_33 rfl rfl ?_
    refine s_aload_n (pc := 34) 0 dX11_goesThrough_34 rfl rfl ?_
    refine s_getI (pc := 35) dX11_goesThrough_35 (fi_X11_170 hG) kd_1 ?_
    refine s_icmp_ge (pc := 38) 342 dX11_goesThrough_38 rfl ?_ ?_
    · exact s_vret (pc := 342) dX11_goesThrough_342 rfl rfl
    · refine s_aload_n (pc := 41) 0 dX11_goesThrough_41 rfl rfl ?_
      refine s_getR (pc := 42) 94 dX11_goesThrough_42 (fi_X11_33 hG) kd_1 rfl ?_
      refine s_iconst (pc := 45) (v := 4) dX11_goesThrough_45 rfl ?_
      refine s_iload_n (pc := 46) 2 dX11_goesThrough_46 rfl rfl ?_
      refine s_imul (pc := 47) dX11_goesThrough_47 ?_
      refine s_iald (pc := 48) 1600 dX11_goesThrough_48 kd_94 ln_94 ?_
      refine s_letI (fun u3_49 => ?_)
      refine s_istore_n (pc := 49) [(3, .int u3_49), (0, .ref (gA G 1)), (1, .int v1), (2, .int v2)] dX11_goesThrough_49 rfl (Nat.le_of_ble_eq_true rfl) rfl ?_
      refine s_aload_n (pc := 50) 1 dX11_goesThrough_50 rfl rfl ?_
      refine s_getR (pc := 51) 94 dX11_goesThrough_51 (fi_X11_33 hG) kd_1 rfl ?_
      refine s_iconst (pc := 54) (v := 4) dX11_goesThrough_54 rfl ?_
      refine s_iload_n (pc := 55) 3 dX11_goesThrough_55 rfl rfl ?_
      refine s_imul (pc := 56) dX11_goesThrough_56 ?_
      refine s_iconst (pc := 57) (v := 1) dX11_goesThrough_57 rfl ?_
      refine s_iadd (pc := 58) dX11_goesThrough_58 ?_
      refine s_iald (pc := 59) 1600 dX11_goesThrough_59 kd_94 ln_94 ?_
      refine s_letI (fun u4_60 => ?_)
      refine s_istore (pc := 60) [(4, .int u4_60), (3, .int u3_49), (0, .ref (gA G 1)), (1, .int v1), (2, .int v2)] dX11_goesThrough_60 (Nat.le_of_ble_eq_true rfl) rfl ?_
      refine s_iload_n (pc := 62) 1 dX11_goesThrough_62 rfl rfl ?_
      refine s_bipush (pc := 63) (v := 8) dX11_goesThrough_63 rfl ?_
      refine s_icmp_ge (pc := 65) 147 dX11_goesThrough_65 rfl ?_ ?_
      · refine s_iload_n (pc := 147) 1 dX11_goesThrough_147 rfl rfl ?_
        refine s_bipush (pc := 148) (v := 8) dX11_goesThrough_148 rfl ?_
        refine s_icmp_ne (pc := 150) 162 dX11_goesThrough_150 rfl ?_ ?_
        · refine s_aload_n (pc := 153) 2 dX11_goesThrough_153 rfl rfl ?_
          refine s_iload (pc := 154) 0 dX11_goesThrough_154 rfl ?_
          refine s_putI (pc := 156) dX11_goesThrough_156 (fp_X11_233 hG) kd_1 ?_
          refine s_letP (fun P156 => ?_)
          refine s_goto (pc := 159) 336 dX11_goesThrough_159 rfl ?_
          refine s_iinc (pc := 336) 4 1 [(2, .int (v2 + 1)), (4, .int u4_60), (3, .int u3_49), (0, .ref (gA G 1)), (1, .int v1)] dX11_goesThrough_336 rfl rfl (Nat.le_of_ble_eq_true rfl) rfl ?_
          refine s_goto (pc := 339) 33 dX11_goesThrough_339 rfl ?_
          refine s_sub [3, 4, 0] rfl ?_
          exact ih v1 (v2 + 1) P156
        · refine s_iload_n (pc := 162) 1 dX11_goesThrough_162 rfl rfl ?_
          refine s_bipush (pc := 163) (v := 10) dX11_goesThrough_163 rfl ?_
          refine s_icmp_ne (pc := 165) 183 dX11_goesThrough_165 rfl ?_ ?_
          · refine s_aload_n (pc := 168) 2 dX11_goesThrough_168 rfl rfl ?_
            refine s_getR (pc := 169) 89 dX11_goesThrough_169 (fi_X11_13 hG) kd_1 rfl ?_
            refine s_sipush (pc := 172) (v := 248) dX11_goesThrough_172 rfl ?_
            refine s_iload (pc := 175) 0 dX11_goesThrough_175 rfl ?_
            refine s_iadd (pc := 177) dX11_goesThrough_177 ?_
            refine s_iconst (pc := 178) (v := 1) dX11_goesThrough_178 rfl ?_
            refine s_iast (pc := 179) 512 dX11_goesThrough_179 kd_89 ln_89 ?_
            refine s_letP (fun P179 => ?_)
            refine s_goto (pc := 180) 336 dX11_goesThrough_180 rfl ?_
            refine s_iinc (pc := 336) 4 1 [(2, .int (v2 + 1)), (4, .int u4_60), (3, .int u3_49), (0, .ref (gA G 1)), (1, .int v1)] dX11_goesThrough_336 rfl rfl (Nat.le_of_ble_eq_true rfl) rfl ?_
            refine s_goto (pc := 339) 33 dX11_goesThrough_339 rfl ?_
            refine s_sub [3, 4, 0] rfl ?_
            exact ih v1 (v2 + 1) P179
          · refine s_iload_n (pc := 183) 1 dX11_goesThrough_183 rfl rfl ?_
            refine s_bipush (pc := 184) (v := 9) dX11_goesThrough_184 rfl ?_
            refine s_icmp_ne (pc := 186) 198 dX11_goesThrough_186 rfl ?_ ?_
            · refine s_aload_n (pc := 189) 2 dX11_goesThrough_189 rfl rfl ?_
              refine s_iload (pc := 190) 0 dX11_goesThrough_190 rfl ?_
              refine s_putI (pc := 192) dX11_goesThrough_192 (fp_X11_240 hG) kd_1 ?_
              refine s_letP (fun P192 => ?_)
              refine s_goto (pc := 195) 336 dX11_goesThrough_195 rfl ?_
              refine s_iinc (pc := 336) 4 1 [(2, .int (v2 + 1)), (4, .int u4_60), (3, .int u3_49), (0, .ref (gA G 1)), (1, .int v1)] dX11_goesThrough_336 rfl rfl (Nat.le_of_ble_eq_true rfl) rfl ?_
              refine s_goto (pc := 339) 33 dX11_goesThrough_339 rfl ?_
              refine s_sub [3, 4, 0] rfl ?_
              exact ih v1 (v2 + 1) P192
            · refine s_iload_n (pc := 198) 1 dX11_goesThrough_198 rfl rfl ?_
              refine s_bipush (pc := 199) (v := 14) dX11_goesThrough_199 rfl ?_
              refine s_icmp_ne (pc := 201) 245 dX11_goesThrough_201 rfl ?_ ?_
              · refine s_aload_n (pc := 204) 2 dX11_goesThrough_204 rfl rfl ?_
                refine s_getR (pc := 205) 96 dX11_goesThrough_205 (fi_X11_39 hG) kd_1 rfl ?_
                refine s_iload_n (pc := 208) 3 dX11_goesThrough_208 rfl rfl ?_
                refine s_iconst (pc := 209) (v := 1) dX11_goesThrough_209 rfl ?_
                refine s_isub (pc := 210) dX11_goesThrough_210 ?_
                refine s_dup2 (pc := 211) dX11_goesThrough_211 rfl rfl ?_
                refine s_iald (pc := 212) 6 dX11_goesThrough_212 kd_96 ln_96 ?_
                refine s_iconst (pc := 213) (v := 1) dX11_goesThrough_213 rfl ?_
                refine s_isub (pc := 214) dX11_goesThrough_214 ?_
                refine s_iast (pc := 215) 6 dX11_goesThrough_215 kd_96 ln_96 ?_
                refine s_letP (fun P215 => ?_)
                refine s_aload_n (pc := 216) 2 dX11_goesThrough_216 rfl rfl ?_
                refine s_getR (pc := 217) 96 dX11_goesThrough_217 (fi_X11_39 hG) kd_1 rfl ?_
                refine s_iload_n (pc := 220) 3 dX11_goesThrough_220 rfl rfl ?_
                refine s_iconst (pc := 221) (v := 1) dX11_goesThrough_221 rfl ?_
                refine s_isub (pc := 222) dX11_goesThrough_222 ?_
                refine s_iald (pc := 223) 6 dX11_goesThrough_223 kd_96 ln_96 ?_
                refine s_if_le (pc := 224) 239 dX11_goesThrough_224 rfl ?_ ?_
                · refine s_iinc (pc := 239) 3 (-1) [(1, .int (v1 + (-1))), (4, .int u4_60), (3, .int u3_49), (0, .ref (gA G 1)), (2, .int v2)] dX11_goesThrough_239 rfl rfl (Nat.le_of_ble_eq_true rfl) rfl ?_
                  refine s_goto (pc := 242) 336 dX11_goesThrough_242 rfl ?_
                  refine s_iinc (pc := 336) 4 1 [(2, .int (v2 + 1)), (1, .int (v1 + (-1))), (4, .int u4_60), (3, .int u3_49), (0, .ref (gA G 1))] dX11_goesThrough_336 rfl rfl (Nat.le_of_ble_eq_true rfl) rfl ?_
                  refine s_goto (pc := 339) 33 dX11_goesThrough_339 rfl ?_
                  refine s_sub [4, 1, 0] rfl ?_
                  exact ih (v1 + (-1)) (v2 + 1) P215
                · refine s_aload_n (pc := 227) 2 dX11_goesThrough_227 rfl rfl ?_
                  refine s_getR (pc := 228) 95 dX11_goesThrough_228 (fi_X11_36 hG) kd_1 rfl ?_
                  refine s_iload_n (pc := 231) 3 dX11_goesThrough_231 rfl rfl ?_
                  refine s_iconst (pc := 232) (v := 1) dX11_goesThrough_232 rfl ?_
                  refine s_isub (pc := 233) dX11_goesThrough_233 ?_
                  refine s_iald (pc := 234) 6 dX11_goesThrough_234 kd_95 ln_95 ?_
                  refine s_letI (fun u2_235 => ?_)
                  refine s_istore_n (pc := 235) [(2, .int u2_235), (4, .int u4_60), (3, .int u3_49), (0, .ref (gA G 1)), (1, .int v1)] dX11_goesThrough_235 rfl (Nat.le_of_ble_eq_true rfl) rfl ?_
                  refine s_goto (pc := 236) 336 dX11_goesThrough_236 rfl ?_
                  refine s_iinc (pc := 336) 0 1 [(2, .int (u2_235 + 1)), (4, .int u4_60), (3, .int u3_49), (0, .ref (gA G 1)), (1, .int v1)] dX11_goesThrough_336 rfl rfl (Nat.le_of_ble_eq_true rfl) rfl ?_
                  refine s_goto (pc := 339) 33 dX11_goesThrough_339 rfl ?_
                  refine s_sub [3, 4, 0] rfl ?_
                  exact ih v1 (u2_235 + 1) P215
              · refine s_aload_n (pc := 245) 2 dX11_goesThrough_245 rfl rfl ?_
                refine s_getR (pc := 246) 95 dX11_goesThrough_246 (fi_X11_36 hG) kd_1 rfl ?_
                refine s_iload_n (pc := 249) 3 dX11_goesThrough_249 rfl rfl ?_
                refine s_iload_n (pc := 250) 4 dX11_goesThrough_250 rfl rfl ?_
                refine s_iast (pc := 251) 6 dX11_goesThrough_251 kd_95 ln_95 ?_
                refine s_letP (fun P251 => ?_)
                refine s_aload_n (pc := 252) 2 dX11_goesThrough_252 rfl rfl ?_
                refine s_getR (pc := 253) 96 dX11_goesThrough_253 (fi_X11_39 hG) kd_1 rfl ?_
                refine s_iload_n (pc := 256) 3 dX11_goesThrough_256 rfl rfl ?_
                refine s_iload (pc := 257) 0 dX11_goesThrough_257 rfl ?_
                refine s_iast (pc := 259) 6 dX11_goesThrough_259 kd_96 ln_96 ?_
                refine s_letP (fun P259 => ?_)
                refine s_iinc (pc := 260) 3 1 [(1, .int (v1 + 1)), (4, .int u4_60), (3, .int u3_49), (0, .ref (gA G 1)), (2, .int v2)] dX11_goesThrough_260 rfl rfl (Nat.le_of_ble_eq_true rfl) rfl ?_
                refine s_aload_n (pc := 263) 3 dX11_goesThrough_263 rfl rfl ?_
                refine s_getR (pc := 264) 97 dX11_goesThrough_264 (fi_X11_42 hG) kd_1 rfl ?_
                refine s_iload_n (pc := 267) 0 dX11_goesThrough_267 rfl rfl ?_
                refine s_aload_n (pc := 268) 3 dX11_goesThrough_268 rfl rfl ?_
                refine s_getR (pc := 269) 97 dX11_goesThrough_269 (fi_X11_42 hG) kd_1 rfl ?_
                refine s_iload_n (pc := 272) 0 dX11_goesThrough_272 rfl rfl ?_
                refine s_iconst (pc := 273) (v := 1) dX11_goesThrough_273 rfl ?_
                refine s_isub (pc := 274) dX11_goesThrough_274 ?_
                refine s_iald (pc := 275) 7 dX11_goesThrough_275 kd_97 ln_97 ?_
                refine s_iload_n (pc := 276) 2 dX11_goesThrough_276 rfl rfl ?_
                refine s_bipush (pc := 277) (v := 12) dX11_goesThrough_277 rfl ?_
                refine s_icmp_ne (pc := 279) 295 dX11_goesThrough_279 rfl ?_ ?_
                · refine s_iconst (pc := 282) (v := 2) dX11_goesThrough_282 rfl ?_
                  refine s_aload_n (pc := 283) 3 dX11_goesThrough_283 rfl rfl ?_
                  refine s_getR (pc := 284) 98 dX11_goesThrough_284 (fi_X11_45 hG) kd_1 rfl ?_
                  refine s_iload_n (pc := 287) 0 dX11_goesThrough_287 rfl rfl ?_
                  refine s_iconst (pc := 288) (v := 1) dX11_goesThrough_288 rfl ?_
                  refine s_isub (pc := 289) dX11_goesThrough_289 ?_
                  refine s_iald (pc := 290) 7 dX11_goesThrough_290 kd_98 ln_98 ?_
                  refine s_imul (pc := 291) dX11_goesThrough_291 ?_
                  refine s_goto (pc := 292) 296 dX11_goesThrough_292 rfl ?_
                  refine s_sub [3, 0, 4, 2] rfl ?_
                  exact Mo_goesThrough_296_sem hG (v1 + 1) v2 u3_49 ((2 : Int32) * (P259.1 98 ((v1 + 1) - (1 : Int32)).toNatClampNeg)) (P259.1 97 ((v1 + 1) - (1 : Int32)).toNatClampNeg) (v1 + 1) P259 (Mo_goesThrough_33  n) ih
                · refine s_iconst (pc := 295) (v := 0) dX11_goesThrough_295 rfl ?_
                  refine s_sub [3, 0, 4, 2] rfl ?_
                  exact Mo_goesThrough_296_sem hG (v1 + 1) v2 u3_49 (0 : Int32) (P259.1 97 ((v1 + 1) - (1 : Int32)).toNatClampNeg) (v1 + 1) P259 (Mo_goesThrough_33  n) ih
      · refine s_aload_n (pc := 68) 2 dX11_goesThrough_68 rfl rfl ?_
        refine s_getR (pc := 69) 97 dX11_goesThrough_69 (fi_X11_42 hG) kd_1 rfl ?_
        refine s_iload_n (pc := 72) 3 dX11_goesThrough_72 rfl rfl ?_
        refine s_iald (pc := 73) 7 dX11_goesThrough_73 kd_97 ln_97 ?_
        refine s_aload_n (pc := 74) 2 dX11_goesThrough_74 rfl rfl ?_
        refine s_getR (pc := 75) 98 dX11_goesThrough_75 (fi_X11_45 hG) kd_1 rfl ?_
        refine s_iload_n (pc := 78) 3 dX11_goesThrough_78 rfl rfl ?_
        refine s_iald (pc := 79) 7 dX11_goesThrough_79 kd_98 ln_98 ?_
        refine s_iload_n (pc := 80) 1 dX11_goesThrough_80 rfl rfl ?_
        refine s_imul (pc := 81) dX11_goesThrough_81 ?_
        refine s_iadd (pc := 82) dX11_goesThrough_82 ?_
        refine s_bipush (pc := 83) (v := 64) dX11_goesThrough_83 rfl ?_
        refine s_iadd (pc := 85) dX11_goesThrough_85 ?_
        refine s_bipush (pc := 86) (v := 8) dX11_goesThrough_86 rfl ?_
        refine s_irem (pc := 88) dX11_goesThrough_88 (by decide) ?_
        refine s_letI (fun u5_89 => ?_)
        refine s_istore (pc := 89) [(5, .int u5_89), (4, .int u4_60), (3, .int u3_49), (0, .ref (gA G 1)), (1, .int v1), (2, .int v2)] dX11_goesThrough_89 (Nat.le_of_ble_eq_true rfl) rfl ?_
        refine s_iconst (pc := 91) (v := 0) dX11_goesThrough_91 rfl ?_
        refine s_istore (pc := 92) [(6, .int ((0 : Int32))), (5, .int u5_89), (4, .int u4_60), (3, .int u3_49), (0, .ref (gA G 1)), (1, .int v1), (2, .int v2)] dX11_goesThrough_92 (Nat.le_of_ble_eq_true rfl) rfl ?_
        refine s_sub [4, 5, 6, 2, 1, 0] rfl ?_
        exact Mo_goesThrough_94_sem hG v1 v2 u4_60 u5_89 (Mo_goesThrough_33  n) ih bigN (0 : Int32) P
def Mo_goesThrough   (P : PH) : Option (PH) :=
  gdI (0 : Int32) 7 <|
  (some (sI P 97 (0 : Int32).toNatClampNeg (0 : Int32))).bind fun (P8 : PH) =>
  gdI (0 : Int32) 7 <|
  (some (sI P8 98 (0 : Int32).toNatClampNeg (1 : Int32))).bind fun (P15 : PH) =>
  (some (sI P15 1 24 (0 : Int32))).bind fun (P18 : PH) =>
  (some (sI P18 1 25 (0 : Int32))).bind fun (P23 : PH) =>
  (some (sI P23 1 26 (0 : Int32))).bind fun (P28 : PH) =>
  Mo_goesThrough_33  bigN (0 : Int32) (0 : Int32) P28
set_option maxRecDepth 100000 in
set_option maxHeartbeats 4000000 in
theorem Mo_goesThrough_ok {G : GT} {l : Launch} (hG : GOK G l)   (P : PH) : OkN G l yX11_goesThrough miX11_goesThrough 0 0 tVH [.ref (gA G 1)] P (Mo_goesThrough P) := by
  refine okN_of hG _ [(0, .ref (gA G 1))] rfl rfl rfl (Nat.le_of_ble_eq_true rfl) rfl ?_
  unfold Mo_goesThrough
  refine s_iconst (pc := 0) (v := 0) dX11_goesThrough_0 rfl ?_
  refine s_istore_n (pc := 1) [(1, .int ((0 : Int32))), (0, .ref (gA G 1))] dX11_goesThrough_1 rfl (Nat.le_of_ble_eq_true rfl) rfl ?_
  refine s_aload_n (pc := 2) 1 dX11_goesThrough_2 rfl rfl ?_
  refine s_getR (pc := 3) 97 dX11_goesThrough_3 (fi_X11_42 hG) kd_1 rfl ?_
  refine s_iconst (pc := 6) (v := 0) dX11_goesThrough_6 rfl ?_
  refine s_iconst (pc := 7) (v := 0) dX11_goesThrough_7 rfl ?_
  refine s_iast (pc := 8) 7 dX11_goesThrough_8 kd_97 ln_97 ?_
  refine s_letP (fun P8 => ?_)
  refine s_aload_n (pc := 9) 1 dX11_goesThrough_9 rfl rfl ?_
  refine s_getR (pc := 10) 98 dX11_goesThrough_10 (fi_X11_45 hG) kd_1 rfl ?_
  refine s_iconst (pc := 13) (v := 0) dX11_goesThrough_13 rfl ?_
  refine s_iconst (pc := 14) (v := 1) dX11_goesThrough_14 rfl ?_
  refine s_iast (pc := 15) 7 dX11_goesThrough_15 kd_98 ln_98 ?_
  refine s_letP (fun P15 => ?_)
  refine s_aload_n (pc := 16) 1 dX11_goesThrough_16 rfl rfl ?_
  refine s_iconst (pc := 17) (v := 0) dX11_goesThrough_17 rfl ?_
  refine s_putI (pc := 18) dX11_goesThrough_18 (fp_X11_233 hG) kd_1 ?_
  refine s_letP (fun P18 => ?_)
  refine s_aload_n (pc := 21) 1 dX11_goesThrough_21 rfl rfl ?_
  refine s_iconst (pc := 22) (v := 0) dX11_goesThrough_22 rfl ?_
  refine s_putI (pc := 23) dX11_goesThrough_23 (fp_X11_240 hG) kd_1 ?_
  refine s_letP (fun P23 => ?_)
  refine s_aload_n (pc := 26) 1 dX11_goesThrough_26 rfl rfl ?_
  refine s_iconst (pc := 27) (v := 0) dX11_goesThrough_27 rfl ?_
  refine s_putI (pc := 28) dX11_goesThrough_28 (fp_X11_230 hG) kd_1 ?_
  refine s_letP (fun P28 => ?_)
  refine s_iconst (pc := 31) (v := 0) dX11_goesThrough_31 rfl ?_
  refine s_istore_n (pc := 32) [(2, .int ((0 : Int32))), (1, .int ((0 : Int32))), (0, .ref (gA G 1))] dX11_goesThrough_32 rfl (Nat.le_of_ble_eq_true rfl) rfl ?_
  refine s_sub [2, 1, 0] rfl ?_
  exact Mo_goesThrough_33_sem hG  bigN (0 : Int32) (0 : Int32) P28
def Mo_drawing_137   (s0 : Int32) (P : PH) : Option (Int32 × PH) :=
  (some (sI P 1 17 s0)).bind fun (P137 : PH) =>
  if (P137.1 1 14) = 0 then
    (Mo_copies 89 88 P137).bind fun (x163 : PH) =>
    gdI (0 : Int32) 512 <|
    some (x163.1 88 (0 : Int32).toNatClampNeg, x163)
  else
    some ((-10 : Int32) - (P137.1 1 14), P137)
set_option maxRecDepth 100000 in
set_option maxHeartbeats 4000000 in
theorem Mo_drawing_137_sem {G : GT} {l : Launch} (hG : GOK G l)  (s0 : Int32) (P : PH)   : Sem G l miX11_drawing 0 0 (rn tIH) 137 [(0, .ref (gA G 1))] [.int s0, .ref (gA G 1)] P (Mo_drawing_137 s0 P) := by
  unfold Mo_drawing_137
  refine s_putI (pc := 137) dX11_drawing_137 (fp_X11_29 hG) kd_1 ?_
  refine s_letP (fun P137 => ?_)
  refine s_aload_n (pc := 140) 0 dX11_drawing_140 rfl rfl ?_
  refine s_getI (pc := 141) dX11_drawing_141 (fi_X11_144 hG) kd_1 ?_
  refine s_if_eq (pc := 144) 155 dX11_drawing_144 rfl ?_ ?_
  · refine s_aload_n (pc := 155) 0 dX11_drawing_155 rfl rfl ?_
    refine s_getR (pc := 156) 89 dX11_drawing_156 (fi_X11_13 hG) kd_1 rfl ?_
    refine s_aload_n (pc := 159) 0 dX11_drawing_159 rfl rfl ?_
    refine s_getR (pc := 160) 88 dX11_drawing_160 (fi_X11_9 hG) kd_1 rfl ?_
    refine s_callS (k := 0) (n := 0) (pc := 163) [.ref (gA G 89), .ref (gA G 88)] (fun _ => []) (fun x163 => x163) dX11_drawing_163 (cS_X11_254 hG) (Nat.le_of_ble_eq_true rfl) rfl (Mo_copies_ok hG 89 ⟨kd_89, ln_89⟩ 88 ⟨kd_88, ln_88⟩ P137) rfl (fun _ => rfl) (fun _ => rfl) (Nat.le_of_ble_eq_true rfl) rfl rfl (fun x163 => ?_)
    refine s_aload_n (pc := 166) 0 dX11_drawing_166 rfl rfl ?_
    refine s_getR (pc := 167) 88 dX11_drawing_167 (fi_X11_9 hG) kd_1 rfl ?_
    refine s_iconst (pc := 170) (v := 0) dX11_drawing_170 rfl ?_
    refine s_iald (pc := 171) 512 dX11_drawing_171 kd_88 ln_88 ?_
    exact s_iret (pc := 172) dX11_drawing_172 rfl rfl
  · refine s_bipush (pc := 147) (v := (-10)) dX11_drawing_147 rfl ?_
    refine s_aload_n (pc := 149) 0 dX11_drawing_149 rfl rfl ?_
    refine s_getI (pc := 150) dX11_drawing_150 (fi_X11_144 hG) kd_1 ?_
    refine s_isub (pc := 153) dX11_drawing_153 ?_
    exact s_iret (pc := 154) dX11_drawing_154 rfl rfl
def Mo_drawing_113    (P : PH) : Option (Int32 × PH) :=
  (some (sI P 1 16 (P.1 1 14))).bind fun (P118 : PH) =>
  if (P118.1 1 14) = 0 then
    Mo_drawing_137 (-1 : Int32) P118
  else
    Mo_drawing_137 (P118.1 1 15) P118
set_option maxRecDepth 100000 in
set_option maxHeartbeats 4000000 in
theorem Mo_drawing_113_sem {G : GT} {l : Launch} (hG : GOK G l)   (P : PH)   : Sem G l miX11_drawing 0 0 (rn tIH) 113 [(0, .ref (gA G 1))] [] P (Mo_drawing_113 P) := by
  unfold Mo_drawing_113
  refine s_aload_n (pc := 113) 0 dX11_drawing_113 rfl rfl ?_
  refine s_aload_n (pc := 114) 0 dX11_drawing_114 rfl rfl ?_
  refine s_getI (pc := 115) dX11_drawing_115 (fi_X11_144 hG) kd_1 ?_
  refine s_putI (pc := 118) dX11_drawing_118 (fp_X11_251 hG) kd_1 ?_
  refine s_letP (fun P118 => ?_)
  refine s_aload_n (pc := 121) 0 dX11_drawing_121 rfl rfl ?_
  refine s_aload_n (pc := 122) 0 dX11_drawing_122 rfl rfl ?_
  refine s_getI (pc := 123) dX11_drawing_123 (fi_X11_144 hG) kd_1 ?_
  refine s_if_ne (pc := 126) 133 dX11_drawing_126 rfl ?_ ?_
  · refine s_iconst (pc := 129) (v := -1) dX11_drawing_129 rfl ?_
    refine s_goto (pc := 130) 137 dX11_drawing_130 rfl ?_
    exact Mo_drawing_137_sem hG (-1 : Int32) P118
  · refine s_aload_n (pc := 133) 0 dX11_drawing_133 rfl rfl ?_
    refine s_getI (pc := 134) dX11_drawing_134 (fi_X11_157 hG) kd_1 ?_
    exact Mo_drawing_137_sem hG (P118.1 1 15) P118
def Mo_drawing_102    (P : PH) : Option (Int32 × PH) :=
  if (P.1 1 14) = 0 then
    (Mo_goesThrough P).bind fun (x110 : PH) =>
    Mo_drawing_113 x110
  else
    Mo_drawing_113 P
set_option maxRecDepth 100000 in
set_option maxHeartbeats 4000000 in
theorem Mo_drawing_102_sem {G : GT} {l : Launch} (hG : GOK G l)   (P : PH)   : Sem G l miX11_drawing 0 0 (rn tIH) 102 [(0, .ref (gA G 1))] [] P (Mo_drawing_102 P) := by
  unfold Mo_drawing_102
  refine s_aload_n (pc := 102) 0 dX11_drawing_102 rfl rfl ?_
  refine s_getI (pc := 103) dX11_drawing_103 (fi_X11_144 hG) kd_1 ?_
  refine s_if_ne (pc := 106) 113 dX11_drawing_106 rfl ?_ ?_
  · refine s_aload_n (pc := 109) 0 dX11_drawing_109 rfl rfl ?_
    refine s_callV (k := 0) (n := 0) (pc := 110) [] (fun _ => []) (fun x110 => x110) dX11_drawing_110 (cV_X11_248 hG) (Nat.le_of_ble_eq_true rfl) rfl kd_1 (Mo_goesThrough_ok hG P) rfl (fun _ => rfl) (fun _ => rfl) (Nat.le_of_ble_eq_true rfl) rfl rfl (fun x110 => ?_)
    exact Mo_drawing_113_sem hG x110
  · exact Mo_drawing_113_sem hG P
def Mo_drawing_81     : Nat → PH → Option (Int32 × PH)
  | 0 => fun _ => none
  | n + 1 => fun P =>
    if (P.1 1 14) = 0 then
      if (P.1 1 11) = 0 then
        Mo_drawing_102 P
      else
        (Mo_readStatement 8 P).bind fun (x96 : PH) =>
        Mo_drawing_81  n x96
    else
      Mo_drawing_102 P
set_option maxRecDepth 100000 in
set_option maxHeartbeats 4000000 in
theorem Mo_drawing_81_sem {G : GT} {l : Launch} (hG : GOK G l)      : ∀ (n : Nat) (P : PH), Sem G l miX11_drawing 0 0 (rn tIH) 81 [(0, .ref (gA G 1))] [] P (Mo_drawing_81  n P) := by
  intro n
  induction n with
  | zero => intro  P; exact s_none rfl
  | succ n ih =>
    intro  P
    rw [Mo_drawing_81]
    refine s_aload_n (pc := 81) 0 dX11_drawing_81 rfl rfl ?_
    refine s_getI (pc := 82) dX11_drawing_82 (fi_X11_144 hG) kd_1 ?_
    refine s_if_ne (pc := 85) 102 dX11_drawing_85 rfl ?_ ?_
    · refine s_aload_n (pc := 88) 0 dX11_drawing_88 rfl rfl ?_
      refine s_getI (pc := 89) dX11_drawing_89 (fi_X11_128 hG) kd_1 ?_
      refine s_if_eq (pc := 92) 102 dX11_drawing_92 rfl ?_ ?_
      · exact Mo_drawing_102_sem hG P
      · refine s_aload_n (pc := 95) 0 dX11_drawing_95 rfl rfl ?_
        refine s_callV (k := 0) (n := 0) (pc := 96) [] (fun _ => []) (fun x96 => x96) dX11_drawing_96 (cV_X11_206 hG 8) (by simp only [hiOf, miX11_drawing, miX11_readStatement]; omega) rfl kd_1 (Mo_readStatement_ok hG 8 P) rfl (fun _ => rfl) (fun _ => rfl) (Nat.le_of_ble_eq_true rfl) rfl rfl (fun x96 => ?_)
        refine s_goto (pc := 99) 81 dX11_drawing_99 rfl ?_
        exact ih x96
    · exact Mo_drawing_102_sem hG P
def Mo_drawing_77    (P : PH) : Option (Int32 × PH) :=
  (Mo_reads P).bind fun (x78 : PH) =>
  Mo_drawing_81  bigN x78
set_option maxRecDepth 100000 in
set_option maxHeartbeats 4000000 in
theorem Mo_drawing_77_sem {G : GT} {l : Launch} (hG : GOK G l)   (P : PH)   : Sem G l miX11_drawing 0 0 (rn tIH) 77 [(0, .ref (gA G 1))] [] P (Mo_drawing_77 P) := by
  unfold Mo_drawing_77
  refine s_aload_n (pc := 77) 0 dX11_drawing_77 rfl rfl ?_
  refine s_callV (k := 0) (n := 0) (pc := 78) [] (fun _ => []) (fun x78 => x78) dX11_drawing_78 (cV_X11_154 hG) (Nat.le_of_ble_eq_true rfl) rfl kd_1 (Mo_reads_ok hG P) rfl (fun _ => rfl) (fun _ => rfl) (Nat.le_of_ble_eq_true rfl) rfl rfl (fun x78 => ?_)
  exact Mo_drawing_81_sem hG  bigN x78
def Mo_drawing_57     : Nat → Int32 → PH → Option (Int32 × PH)
  | 0 => fun _ _ => none
  | n + 1 => fun v2 P =>
    if (512 : Int32) ≤ v2 then
      Mo_drawing_77 P
    else
      gdI v2 512 <|
      (some (sI P 89 v2.toNatClampNeg (0 : Int32))).bind fun (P70 : PH) =>
      Mo_drawing_57  n (v2 + 1) P70
set_option maxRecDepth 100000 in
set_option maxHeartbeats 4000000 in
theorem Mo_drawing_57_sem {G : GT} {l : Launch} (hG : GOK G l)      : ∀ (n : Nat) (v2 : Int32) (P : PH), Sem G l miX11_drawing 0 0 (rn tIH) 57 [(0, .ref (gA G 1)), (2, .int v2)] [] P (Mo_drawing_57  n v2 P) := by
  intro n
  induction n with
  | zero => intro v2 P; exact s_none rfl
  | succ n ih =>
    intro v2 P
    rw [Mo_drawing_57]
    refine s_iload_n (pc := 57) 1 dX11_drawing_57 rfl rfl ?_
    refine s_sipush (pc := 58) (v := 512) dX11_drawing_58 rfl ?_
    refine s_icmp_ge (pc := 61) 77 dX11_drawing_61 rfl ?_ ?_
    · refine s_sub [0] rfl ?_
      exact Mo_drawing_77_sem hG P
    · refine s_aload_n (pc := 64) 0 dX11_drawing_64 rfl rfl ?_
      refine s_getR (pc := 65) 89 dX11_drawing_65 (fi_X11_13 hG) kd_1 rfl ?_
      refine s_iload_n (pc := 68) 1 dX11_drawing_68 rfl rfl ?_
      refine s_iconst (pc := 69) (v := 0) dX11_drawing_69 rfl ?_
      refine s_iast (pc := 70) 512 dX11_drawing_70 kd_89 ln_89 ?_
      refine s_letP (fun P70 => ?_)
      refine s_iinc (pc := 71) 1 1 [(2, .int (v2 + 1)), (0, .ref (gA G 1))] dX11_drawing_71 rfl rfl (Nat.le_of_ble_eq_true rfl) rfl ?_
      refine s_goto (pc := 74) 57 dX11_drawing_74 rfl ?_
      refine s_sub [1, 0] rfl ?_
      exact ih (v2 + 1) P70
def Mo_drawing  (v1 : Int32) (P : PH) : Option (Int32 × PH) :=
  (some (sI P 1 5 (0 : Int32))).bind fun (P2 : PH) =>
  (Mo_within v1.toInt64 (0 : Int64) ((P2.1 1 7).toInt64) P2).bind fun (x13 : Int32) =>
  if x13 = 0 then
    (Mo_fails (1 : Int32) P2).bind fun (x21 : Int32 × PH) =>
    some (x21.1, x21.2)
  else
    (some (sI P2 1 8 v1)).bind fun (P27 : PH) =>
    (some (sI P27 1 7 (0 : Int32))).bind fun (P32 : PH) =>
    (some (sI P32 1 9 (0 : Int32))).bind fun (P37 : PH) =>
    (some (sI P37 1 14 (0 : Int32))).bind fun (P42 : PH) =>
    (some (sI P42 1 13 (0 : Int32))).bind fun (P47 : PH) =>
    (some (sI P47 1 19 (0 : Int32))).bind fun (P52 : PH) =>
    Mo_drawing_57  bigN (0 : Int32) P52
set_option maxRecDepth 100000 in
set_option maxHeartbeats 4000000 in
theorem Mo_drawing_ok {G : GT} {l : Launch} (hG : GOK G l)  (v1 : Int32) (P : PH) : OkN G l yX11_drawing miX11_drawing 0 0 tIH [.ref (gA G 1), .int v1] P (Mo_drawing v1 P) := by
  refine okN_of hG _ [(0, .ref (gA G 1)), (1, .int v1)] rfl rfl rfl (Nat.le_of_ble_eq_true rfl) rfl ?_
  unfold Mo_drawing
  refine s_aload_n (pc := 0) 0 dX11_drawing_0 rfl rfl ?_
  refine s_iconst (pc := 1) (v := 0) dX11_drawing_1 rfl ?_
  refine s_putI (pc := 2) dX11_drawing_2 (fp_X11_86 hG) kd_1 ?_
  refine s_letP (fun P2 => ?_)
  refine s_iload_n (pc := 5) 1 dX11_drawing_5 rfl rfl ?_
  refine s_i2l (pc := 6) dX11_drawing_6 ?_
  refine s_lconst (pc := 7) (v := 0) dX11_drawing_7 rfl ?_
  refine s_aload_n (pc := 8) 0 dX11_drawing_8 rfl rfl ?_
  refine s_getI (pc := 9) dX11_drawing_9 (fi_X11_116 hG) kd_1 ?_
  refine s_i2l (pc := 12) dX11_drawing_12 ?_
  refine s_callS (k := 0) (n := 0) (pc := 13) [.long (v1.toInt64), .long ((0 : Int64)), .long ((P2.1 1 7).toInt64)] (fun x13 => .int x13 :: []) (fun _ => P2) dX11_drawing_13 (cS_X11_98 hG) (Nat.le_of_ble_eq_true rfl) rfl (Mo_within_ok hG v1.toInt64 (0 : Int64) ((P2.1 1 7).toInt64) P2) rfl (fun _ => rfl) (fun _ => rfl) (Nat.le_of_ble_eq_true rfl) rfl rfl (fun x13 => ?_)
  refine s_if_ne (pc := 16) 25 dX11_drawing_16 rfl ?_ ?_
  · refine s_aload_n (pc := 19) 0 dX11_drawing_19 rfl rfl ?_
    refine s_iconst (pc := 20) (v := 1) dX11_drawing_20 rfl ?_
    refine s_callV (k := 0) (n := 0) (pc := 21) [.int ((1 : Int32))] (fun x21 => .int (x21.1) :: []) (fun x21 => x21.2) dX11_drawing_21 (cV_X11_245 hG) (Nat.le_of_ble_eq_true rfl) rfl kd_1 (Mo_fails_ok hG (1 : Int32) P2) rfl (fun _ => rfl) (fun _ => rfl) (Nat.le_of_ble_eq_true rfl) rfl rfl (fun x21 => ?_)
    exact s_iret (pc := 24) dX11_drawing_24 rfl rfl
  · refine s_aload_n (pc := 25) 0 dX11_drawing_25 rfl rfl ?_
    refine s_iload_n (pc := 26) 1 dX11_drawing_26 rfl rfl ?_
    refine s_putI (pc := 27) dX11_drawing_27 (fp_X11_119 hG) kd_1 ?_
    refine s_letP (fun P27 => ?_)
    refine s_aload_n (pc := 30) 0 dX11_drawing_30 rfl rfl ?_
    refine s_iconst (pc := 31) (v := 0) dX11_drawing_31 rfl ?_
    refine s_putI (pc := 32) dX11_drawing_32 (fp_X11_116 hG) kd_1 ?_
    refine s_letP (fun P32 => ?_)
    refine s_aload_n (pc := 35) 0 dX11_drawing_35 rfl rfl ?_
    refine s_iconst (pc := 36) (v := 0) dX11_drawing_36 rfl ?_
    refine s_putI (pc := 37) dX11_drawing_37 (fp_X11_122 hG) kd_1 ?_
    refine s_letP (fun P37 => ?_)
    refine s_aload_n (pc := 40) 0 dX11_drawing_40 rfl rfl ?_
    refine s_iconst (pc := 41) (v := 0) dX11_drawing_41 rfl ?_
    refine s_putI (pc := 42) dX11_drawing_42 (fp_X11_144 hG) kd_1 ?_
    refine s_letP (fun P42 => ?_)
    refine s_aload_n (pc := 45) 0 dX11_drawing_45 rfl rfl ?_
    refine s_iconst (pc := 46) (v := 0) dX11_drawing_46 rfl ?_
    refine s_putI (pc := 47) dX11_drawing_47 (fp_X11_200 hG) kd_1 ?_
    refine s_letP (fun P47 => ?_)
    refine s_aload_n (pc := 50) 0 dX11_drawing_50 rfl rfl ?_
    refine s_iconst (pc := 51) (v := 0) dX11_drawing_51 rfl ?_
    refine s_putI (pc := 52) dX11_drawing_52 (fp_X11_170 hG) kd_1 ?_
    refine s_letP (fun P52 => ?_)
    refine s_iconst (pc := 55) (v := 0) dX11_drawing_55 rfl ?_
    refine s_istore_n (pc := 56) [(2, .int ((0 : Int32))), (0, .ref (gA G 1)), (1, .int v1)] dX11_drawing_56 rfl (Nat.le_of_ble_eq_true rfl) rfl ?_
    refine s_sub [1, 0] rfl ?_
    exact Mo_drawing_57_sem hG  bigN (0 : Int32) P52
def Mo_fault  (v1 : Int32) (P : PH) : Option (Int32 × PH) :=
  (some (sI P 1 5 (0 : Int32))).bind fun (P2 : PH) =>
  if v1 = 0 then
    some (P2.1 1 16, P2)
  else
    if v1 = (1 : Int32) then
      some (P2.1 1 17, P2)
    else
      some ((-1 : Int32), P2)
set_option maxRecDepth 100000 in
set_option maxHeartbeats 4000000 in
theorem Mo_fault_ok {G : GT} {l : Launch} (hG : GOK G l)  (v1 : Int32) (P : PH) : OkN G l yX11_fault miX11_fault 0 0 tIH [.ref (gA G 1), .int v1] P (Mo_fault v1 P) := by
  refine okN_of hG _ [(0, .ref (gA G 1)), (1, .int v1)] rfl rfl rfl (Nat.le_of_ble_eq_true rfl) rfl ?_
  unfold Mo_fault
  refine s_aload_n (pc := 0) 0 dX11_fault_0 rfl rfl ?_
  refine s_iconst (pc := 1) (v := 0) dX11_fault_1 rfl ?_
  refine s_putI (pc := 2) dX11_fault_2 (fp_X11_86 hG) kd_1 ?_
  refine s_letP (fun P2 => ?_)
  refine s_iload_n (pc := 5) 1 dX11_fault_5 rfl rfl ?_
  refine s_if_ne (pc := 6) 16 dX11_fault_6 rfl ?_ ?_
  · refine s_aload_n (pc := 9) 0 dX11_fault_9 rfl rfl ?_
    refine s_getI (pc := 10) dX11_fault_10 (fi_X11_251 hG) kd_1 ?_
    refine s_goto (pc := 13) 29 dX11_fault_13 rfl ?_
    exact s_iret (pc := 29) dX11_fault_29 rfl rfl
  · refine s_iload_n (pc := 16) 1 dX11_fault_16 rfl rfl ?_
    refine s_iconst (pc := 17) (v := 1) dX11_fault_17 rfl ?_
    refine s_icmp_ne (pc := 18) 28 dX11_fault_18 rfl ?_ ?_
    · refine s_aload_n (pc := 21) 0 dX11_fault_21 rfl rfl ?_
      refine s_getI (pc := 22) dX11_fault_22 (fi_X11_29 hG) kd_1 ?_
      refine s_goto (pc := 25) 29 dX11_fault_25 rfl ?_
      exact s_iret (pc := 29) dX11_fault_29 rfl rfl
    · refine s_iconst (pc := 28) (v := -1) dX11_fault_28 rfl ?_
      exact s_iret (pc := 29) dX11_fault_29 rfl rfl
def Mo_isLine  (v1 : Int32) (P : PH) : Option (Int32) :=
  gdI (0 : Int32) 512 <|
  (Mo_within v1.toInt64 (0 : Int64) (((P.1 88 (0 : Int32).toNatClampNeg) - (1 : Int32)).toInt64) P).bind fun (x12 : Int32) =>
  gdP (x12 = 0 ∨ x12 = 1) <|
  some x12
set_option maxRecDepth 100000 in
set_option maxHeartbeats 4000000 in
theorem Mo_isLine_ok {G : GT} {l : Launch} (hG : GOK G l)  (v1 : Int32) (P : PH) : OkN G l yX11_isLine miX11_isLine 0 0 (tI P) [.ref (gA G 1), .int v1] P (Mo_isLine v1 P) := by
  refine okN_of hG _ [(0, .ref (gA G 1)), (1, .int v1)] rfl rfl rfl (Nat.le_of_ble_eq_true rfl) rfl ?_
  unfold Mo_isLine
  refine s_iload_n (pc := 0) 1 dX11_isLine_0 rfl rfl ?_
  refine s_i2l (pc := 1) dX11_isLine_1 ?_
  refine s_lconst (pc := 2) (v := 0) dX11_isLine_2 rfl ?_
  refine s_aload_n (pc := 3) 0 dX11_isLine_3 rfl rfl ?_
  refine s_getR (pc := 4) 88 dX11_isLine_4 (fi_X11_9 hG) kd_1 rfl ?_
  refine s_iconst (pc := 7) (v := 0) dX11_isLine_7 rfl ?_
  refine s_iald (pc := 8) 512 dX11_isLine_8 kd_88 ln_88 ?_
  refine s_iconst (pc := 9) (v := 1) dX11_isLine_9 rfl ?_
  refine s_isub (pc := 10) dX11_isLine_10 ?_
  refine s_i2l (pc := 11) dX11_isLine_11 ?_
  refine s_callS (k := 0) (n := 0) (pc := 12) [.long (v1.toInt64), .long ((0 : Int64)), .long (((P.1 88 (0 : Int32).toNatClampNeg) - (1 : Int32)).toInt64)] (fun x12 => .int x12 :: []) (fun _ => P) dX11_isLine_12 (cS_X11_98 hG) (Nat.le_of_ble_eq_true rfl) rfl (Mo_within_ok hG v1.toInt64 (0 : Int64) (((P.1 88 (0 : Int32).toNatClampNeg) - (1 : Int32)).toInt64) P) rfl (fun _ => rfl) (fun _ => rfl) (Nat.le_of_ble_eq_true rfl) rfl rfl (fun x12 => ?_)
  exact s_zret (pc := 15) dX11_isLine_15 rfl rfl
def Mo_from  (v1 : Int32) (P : PH) : Option (Int32) :=
  gdI (((8 : Int32) + ((4 : Int32) * v1)) + (0 : Int32)) 512 <|
  some (P.1 88 (((8 : Int32) + ((4 : Int32) * v1)) + (0 : Int32)).toNatClampNeg)
set_option maxRecDepth 100000 in
set_option maxHeartbeats 4000000 in
theorem Mo_from_ok {G : GT} {l : Launch} (hG : GOK G l)  (v1 : Int32) (P : PH) : OkN G l yX11_from miX11_from 0 0 (tI P) [.ref (gA G 1), .int v1] P (Mo_from v1 P) := by
  refine okN_of hG _ [(0, .ref (gA G 1)), (1, .int v1)] rfl rfl rfl (Nat.le_of_ble_eq_true rfl) rfl ?_
  unfold Mo_from
  refine s_aload_n (pc := 0) 0 dX11_from_0 rfl rfl ?_
  refine s_getR (pc := 1) 88 dX11_from_1 (fi_X11_9 hG) kd_1 rfl ?_
  refine s_bipush (pc := 4) (v := 8) dX11_from_4 rfl ?_
  refine s_iconst (pc := 6) (v := 4) dX11_from_6 rfl ?_
  refine s_iload_n (pc := 7) 1 dX11_from_7 rfl rfl ?_
  refine s_imul (pc := 8) dX11_from_8 ?_
  refine s_iadd (pc := 9) dX11_from_9 ?_
  refine s_iconst (pc := 10) (v := 0) dX11_from_10 rfl ?_
  refine s_iadd (pc := 11) dX11_from_11 ?_
  refine s_iald (pc := 12) 512 dX11_from_12 kd_88 ln_88 ?_
  exact s_iret (pc := 13) dX11_from_13 rfl rfl
def Mo_to  (v1 : Int32) (P : PH) : Option (Int32) :=
  (Mo_endOf 88 v1 P).bind fun (x5 : Int32) =>
  some x5
set_option maxRecDepth 100000 in
set_option maxHeartbeats 4000000 in
theorem Mo_to_ok {G : GT} {l : Launch} (hG : GOK G l)  (v1 : Int32) (P : PH) : OkN G l yX11_to miX11_to 0 0 (tI P) [.ref (gA G 1), .int v1] P (Mo_to v1 P) := by
  refine okN_of hG _ [(0, .ref (gA G 1)), (1, .int v1)] rfl rfl rfl (Nat.le_of_ble_eq_true rfl) rfl ?_
  unfold Mo_to
  refine s_aload_n (pc := 0) 0 dX11_to_0 rfl rfl ?_
  refine s_getR (pc := 1) 88 dX11_to_1 (fi_X11_9 hG) kd_1 rfl ?_
  refine s_iload_n (pc := 4) 1 dX11_to_4 rfl rfl ?_
  refine s_callS (k := 0) (n := 0) (pc := 5) [.ref (gA G 88), .int v1] (fun x5 => .int x5 :: []) (fun _ => P) dX11_to_5 (cS_X11_112 hG) (Nat.le_of_ble_eq_true rfl) rfl (Mo_endOf_ok hG 88 ⟨kd_88, ln_88⟩ v1 P) rfl (fun _ => rfl) (fun _ => rfl) (Nat.le_of_ble_eq_true rfl) rfl rfl (fun x5 => ?_)
  exact s_iret (pc := 8) dX11_to_8 rfl rfl
def Mo_inkOf  (v1 : Int32) (P : PH) : Option (Int32) :=
  gdI (((8 : Int32) + ((4 : Int32) * v1)) + (2 : Int32)) 512 <|
  some (P.1 88 (((8 : Int32) + ((4 : Int32) * v1)) + (2 : Int32)).toNatClampNeg)
set_option maxRecDepth 100000 in
set_option maxHeartbeats 4000000 in
theorem Mo_inkOf_ok {G : GT} {l : Launch} (hG : GOK G l)  (v1 : Int32) (P : PH) : OkN G l yX11_inkOf miX11_inkOf 0 0 (tI P) [.ref (gA G 1), .int v1] P (Mo_inkOf v1 P) := by
  refine okN_of hG _ [(0, .ref (gA G 1)), (1, .int v1)] rfl rfl rfl (Nat.le_of_ble_eq_true rfl) rfl ?_
  unfold Mo_inkOf
  refine s_aload_n (pc := 0) 0 dX11_inkOf_0 rfl rfl ?_
  refine s_getR (pc := 1) 88 dX11_inkOf_1 (fi_X11_9 hG) kd_1 rfl ?_
  refine s_bipush (pc := 4) (v := 8) dX11_inkOf_4 rfl ?_
  refine s_iconst (pc := 6) (v := 4) dX11_inkOf_6 rfl ?_
  refine s_iload_n (pc := 7) 1 dX11_inkOf_7 rfl rfl ?_
  refine s_imul (pc := 8) dX11_inkOf_8 ?_
  refine s_iadd (pc := 9) dX11_inkOf_9 ?_
  refine s_iconst (pc := 10) (v := 2) dX11_inkOf_10 rfl ?_
  refine s_iadd (pc := 11) dX11_inkOf_11 ?_
  refine s_iald (pc := 12) 512 dX11_inkOf_12 kd_88 ln_88 ?_
  exact s_iret (pc := 13) dX11_inkOf_13 rfl rfl
def Mo_worked  (v1 : Int32) (P : PH) : Option (Int32) :=
  gdI (((8 : Int32) + ((4 : Int32) * v1)) + (3 : Int32)) 512 <|
  some (P.1 88 (((8 : Int32) + ((4 : Int32) * v1)) + (3 : Int32)).toNatClampNeg)
set_option maxRecDepth 100000 in
set_option maxHeartbeats 4000000 in
theorem Mo_worked_ok {G : GT} {l : Launch} (hG : GOK G l)  (v1 : Int32) (P : PH) : OkN G l yX11_worked miX11_worked 0 0 (tI P) [.ref (gA G 1), .int v1] P (Mo_worked v1 P) := by
  refine okN_of hG _ [(0, .ref (gA G 1)), (1, .int v1)] rfl rfl rfl (Nat.le_of_ble_eq_true rfl) rfl ?_
  unfold Mo_worked
  refine s_aload_n (pc := 0) 0 dX11_worked_0 rfl rfl ?_
  refine s_getR (pc := 1) 88 dX11_worked_1 (fi_X11_9 hG) kd_1 rfl ?_
  refine s_bipush (pc := 4) (v := 8) dX11_worked_4 rfl ?_
  refine s_iconst (pc := 6) (v := 4) dX11_worked_6 rfl ?_
  refine s_iload_n (pc := 7) 1 dX11_worked_7 rfl rfl ?_
  refine s_imul (pc := 8) dX11_worked_8 ?_
  refine s_iadd (pc := 9) dX11_worked_9 ?_
  refine s_iconst (pc := 10) (v := 3) dX11_worked_10 rfl ?_
  refine s_iadd (pc := 11) dX11_worked_11 ?_
  refine s_iald (pc := 12) 512 dX11_worked_12 kd_88 ln_88 ?_
  exact s_iret (pc := 13) dX11_worked_13 rfl rfl
def Mo_isOf  (v1 : Int32) (v2 : Int32) (P : PH) : Option (Int32) :=
  if v2 = (-1 : Int32) then
    gdP ((1 : Int32) = 0 ∨ (1 : Int32) = 1) <|
    some (1 : Int32)
  else
    (Mo_inkOf v1 P).bind fun (x7 : Int32) =>
    if x7 = v2 then
      gdP ((1 : Int32) = 0 ∨ (1 : Int32) = 1) <|
      some (1 : Int32)
    else
      gdP ((0 : Int32) = 0 ∨ (0 : Int32) = 1) <|
      some (0 : Int32)
set_option maxRecDepth 100000 in
set_option maxHeartbeats 4000000 in
theorem Mo_isOf_ok {G : GT} {l : Launch} (hG : GOK G l)  (v1 : Int32) (v2 : Int32) (P : PH) : OkN G l yX11_isOf miX11_isOf 0 0 (tI P) [.ref (gA G 1), .int v1, .int v2] P (Mo_isOf v1 v2 P) := by
  refine okN_of hG _ [(0, .ref (gA G 1)), (1, .int v1), (2, .int v2)] rfl rfl rfl (Nat.le_of_ble_eq_true rfl) rfl ?_
  unfold Mo_isOf
  refine s_iload_n (pc := 0) 2 dX11_isOf_0 rfl rfl ?_
  refine s_iconst (pc := 1) (v := -1) dX11_isOf_1 rfl ?_
  refine s_icmp_eq (pc := 2) 14 dX11_isOf_2 rfl ?_ ?_
  · refine s_iconst (pc := 14) (v := 1) dX11_isOf_14 rfl ?_
    refine s_goto (pc := 15) 19 dX11_isOf_15 rfl ?_
    exact s_zret (pc := 19) dX11_isOf_19 rfl rfl
  · refine s_aload_n (pc := 5) 0 dX11_isOf_5 rfl rfl ?_
    refine s_iload_n (pc := 6) 1 dX11_isOf_6 rfl rfl ?_
    refine s_callV (k := 0) (n := 0) (pc := 7) [.int v1] (fun x7 => .int x7 :: []) (fun _ => P) dX11_isOf_7 (cV_X11_258 hG) (Nat.le_of_ble_eq_true rfl) rfl kd_1 (Mo_inkOf_ok hG v1 P) rfl (fun _ => rfl) (fun _ => rfl) (Nat.le_of_ble_eq_true rfl) rfl rfl (fun x7 => ?_)
    refine s_iload_n (pc := 10) 2 dX11_isOf_10 rfl rfl ?_
    refine s_icmp_ne (pc := 11) 18 dX11_isOf_11 rfl ?_ ?_
    · refine s_iconst (pc := 14) (v := 1) dX11_isOf_14 rfl ?_
      refine s_goto (pc := 15) 19 dX11_isOf_15 rfl ?_
      exact s_zret (pc := 19) dX11_isOf_19 rfl rfl
    · refine s_iconst (pc := 18) (v := 0) dX11_isOf_18 rfl ?_
      exact s_zret (pc := 19) dX11_isOf_19 rfl rfl
def Mo_isAt  (v1 : Int32) (v2 : Int32) (P : PH) : Option (Int32) :=
  (Mo_from v1 P).bind fun (x2 : Int32) =>
  if x2 = v2 then
    gdP ((1 : Int32) = 0 ∨ (1 : Int32) = 1) <|
    some (1 : Int32)
  else
    (Mo_to v1 P).bind fun (x11 : Int32) =>
    if x11 = v2 then
      gdP ((1 : Int32) = 0 ∨ (1 : Int32) = 1) <|
      some (1 : Int32)
    else
      gdP ((0 : Int32) = 0 ∨ (0 : Int32) = 1) <|
      some (0 : Int32)
set_option maxRecDepth 100000 in
set_option maxHeartbeats 4000000 in
theorem Mo_isAt_ok {G : GT} {l : Launch} (hG : GOK G l)  (v1 : Int32) (v2 : Int32) (P : PH) : OkN G l yX11_isAt miX11_isAt 0 0 (tI P) [.ref (gA G 1), .int v1, .int v2] P (Mo_isAt v1 v2 P) := by
  refine okN_of hG _ [(0, .ref (gA G 1)), (1, .int v1), (2, .int v2)] rfl rfl rfl (Nat.le_of_ble_eq_true rfl) rfl ?_
  unfold Mo_isAt
  refine s_aload_n (pc := 0) 0 dX11_isAt_0 rfl rfl ?_
  refine s_iload_n (pc := 1) 1 dX11_isAt_1 rfl rfl ?_
  refine s_callV (k := 0) (n := 0) (pc := 2) [.int v1] (fun x2 => .int x2 :: []) (fun _ => P) dX11_isAt_2 (cV_X11_261 hG) (Nat.le_of_ble_eq_true rfl) rfl kd_1 (Mo_from_ok hG v1 P) rfl (fun _ => rfl) (fun _ => rfl) (Nat.le_of_ble_eq_true rfl) rfl rfl (fun x2 => ?_)
  refine s_iload_n (pc := 5) 2 dX11_isAt_5 rfl rfl ?_
  refine s_icmp_eq (pc := 6) 18 dX11_isAt_6 rfl ?_ ?_
  · refine s_iconst (pc := 18) (v := 1) dX11_isAt_18 rfl ?_
    refine s_goto (pc := 19) 23 dX11_isAt_19 rfl ?_
    exact s_zret (pc := 23) dX11_isAt_23 rfl rfl
  · refine s_aload_n (pc := 9) 0 dX11_isAt_9 rfl rfl ?_
    refine s_iload_n (pc := 10) 1 dX11_isAt_10 rfl rfl ?_
    refine s_callV (k := 0) (n := 0) (pc := 11) [.int v1] (fun x11 => .int x11 :: []) (fun _ => P) dX11_isAt_11 (cV_X11_264 hG) (Nat.le_of_ble_eq_true rfl) rfl kd_1 (Mo_to_ok hG v1 P) rfl (fun _ => rfl) (fun _ => rfl) (Nat.le_of_ble_eq_true rfl) rfl rfl (fun x11 => ?_)
    refine s_iload_n (pc := 14) 2 dX11_isAt_14 rfl rfl ?_
    refine s_icmp_ne (pc := 15) 22 dX11_isAt_15 rfl ?_ ?_
    · refine s_iconst (pc := 18) (v := 1) dX11_isAt_18 rfl ?_
      refine s_goto (pc := 19) 23 dX11_isAt_19 rfl ?_
      exact s_zret (pc := 23) dX11_isAt_23 rfl rfl
    · refine s_iconst (pc := 22) (v := 0) dX11_isAt_22 rfl ?_
      exact s_zret (pc := 23) dX11_isAt_23 rfl rfl
def Mo_line  (v1 : Int32) (v2 : Int32) (P : PH) : Option (Int32 × PH) :=
  (some (sI P 1 5 (0 : Int32))).bind fun (P2 : PH) =>
  (Mo_isLine v1 P2).bind fun (x7 : Int32) =>
  if x7 = 0 then
    (Mo_fails (1 : Int32) P2).bind fun (x15 : Int32 × PH) =>
    some (x15.1, x15.2)
  else
    (Mo_within v2.toInt64 (0 : Int64) (3 : Int64) P2).bind fun (x25 : Int32) =>
    if x25 = 0 then
      (Mo_fails (2 : Int32) P2).bind fun (x33 : Int32 × PH) =>
      some (x33.1, x33.2)
    else
      if v2 = 0 then
        (Mo_from v1 P2).bind fun (x43 : Int32) =>
        some (x43, P2)
      else
        if v2 = (1 : Int32) then
          (Mo_to v1 P2).bind fun (x56 : Int32) =>
          some (x56, P2)
        else
          if v2 = (2 : Int32) then
            (Mo_inkOf v1 P2).bind fun (x69 : Int32) =>
            some (x69, P2)
          else
            (Mo_worked v1 P2).bind fun (x77 : Int32) =>
            some (x77, P2)
set_option maxRecDepth 100000 in
set_option maxHeartbeats 4000000 in
theorem Mo_line_ok {G : GT} {l : Launch} (hG : GOK G l)  (v1 : Int32) (v2 : Int32) (P : PH) : OkN G l yX11_line miX11_line 0 0 tIH [.ref (gA G 1), .int v1, .int v2] P (Mo_line v1 v2 P) := by
  refine okN_of hG _ [(0, .ref (gA G 1)), (1, .int v1), (2, .int v2)] rfl rfl rfl (Nat.le_of_ble_eq_true rfl) rfl ?_
  unfold Mo_line
  refine s_aload_n (pc := 0) 0 dX11_line_0 rfl rfl ?_
  refine s_iconst (pc := 1) (v := 0) dX11_line_1 rfl ?_
  refine s_putI (pc := 2) dX11_line_2 (fp_X11_86 hG) kd_1 ?_
  refine s_letP (fun P2 => ?_)
  refine s_aload_n (pc := 5) 0 dX11_line_5 rfl rfl ?_
  refine s_iload_n (pc := 6) 1 dX11_line_6 rfl rfl ?_
  refine s_callV (k := 0) (n := 0) (pc := 7) [.int v1] (fun x7 => .int x7 :: []) (fun _ => P2) dX11_line_7 (cV_X11_267 hG) (Nat.le_of_ble_eq_true rfl) rfl kd_1 (Mo_isLine_ok hG v1 P2) rfl (fun _ => rfl) (fun _ => rfl) (Nat.le_of_ble_eq_true rfl) rfl rfl (fun x7 => ?_)
  refine s_if_ne (pc := 10) 19 dX11_line_10 rfl ?_ ?_
  · refine s_aload_n (pc := 13) 0 dX11_line_13 rfl rfl ?_
    refine s_iconst (pc := 14) (v := 1) dX11_line_14 rfl ?_
    refine s_callV (k := 0) (n := 0) (pc := 15) [.int ((1 : Int32))] (fun x15 => .int (x15.1) :: []) (fun x15 => x15.2) dX11_line_15 (cV_X11_245 hG) (Nat.le_of_ble_eq_true rfl) rfl kd_1 (Mo_fails_ok hG (1 : Int32) P2) rfl (fun _ => rfl) (fun _ => rfl) (Nat.le_of_ble_eq_true rfl) rfl rfl (fun x15 => ?_)
    exact s_iret (pc := 18) dX11_line_18 rfl rfl
  · refine s_iload_n (pc := 19) 2 dX11_line_19 rfl rfl ?_
    refine s_i2l (pc := 20) dX11_line_20 ?_
    refine s_lconst (pc := 21) (v := 0) dX11_line_21 rfl ?_
    refine s_ldc2 (pc := 22) (v := 3) dX11_line_22 (gw_X11_106 hG) ?_
    refine s_callS (k := 0) (n := 0) (pc := 25) [.long (v2.toInt64), .long ((0 : Int64)), .long ((3 : Int64))] (fun x25 => .int x25 :: []) (fun _ => P2) dX11_line_25 (cS_X11_98 hG) (Nat.le_of_ble_eq_true rfl) rfl (Mo_within_ok hG v2.toInt64 (0 : Int64) (3 : Int64) P2) rfl (fun _ => rfl) (fun _ => rfl) (Nat.le_of_ble_eq_true rfl) rfl rfl (fun x25 => ?_)
    refine s_if_ne (pc := 28) 37 dX11_line_28 rfl ?_ ?_
    · refine s_aload_n (pc := 31) 0 dX11_line_31 rfl rfl ?_
      refine s_iconst (pc := 32) (v := 2) dX11_line_32 rfl ?_
      refine s_callV (k := 0) (n := 0) (pc := 33) [.int ((2 : Int32))] (fun x33 => .int (x33.1) :: []) (fun x33 => x33.2) dX11_line_33 (cV_X11_245 hG) (Nat.le_of_ble_eq_true rfl) rfl kd_1 (Mo_fails_ok hG (2 : Int32) P2) rfl (fun _ => rfl) (fun _ => rfl) (Nat.le_of_ble_eq_true rfl) rfl rfl (fun x33 => ?_)
      exact s_iret (pc := 36) dX11_line_36 rfl rfl
    · refine s_iload_n (pc := 37) 2 dX11_line_37 rfl rfl ?_
      refine s_if_ne (pc := 38) 49 dX11_line_38 rfl ?_ ?_
      · refine s_aload_n (pc := 41) 0 dX11_line_41 rfl rfl ?_
        refine s_iload_n (pc := 42) 1 dX11_line_42 rfl rfl ?_
        refine s_callV (k := 0) (n := 0) (pc := 43) [.int v1] (fun x43 => .int x43 :: []) (fun _ => P2) dX11_line_43 (cV_X11_261 hG) (Nat.le_of_ble_eq_true rfl) rfl kd_1 (Mo_from_ok hG v1 P2) rfl (fun _ => rfl) (fun _ => rfl) (Nat.le_of_ble_eq_true rfl) rfl rfl (fun x43 => ?_)
        refine s_goto (pc := 46) 80 dX11_line_46 rfl ?_
        exact s_iret (pc := 80) dX11_line_80 rfl rfl
      · refine s_iload_n (pc := 49) 2 dX11_line_49 rfl rfl ?_
        refine s_iconst (pc := 50) (v := 1) dX11_line_50 rfl ?_
        refine s_icmp_ne (pc := 51) 62 dX11_line_51 rfl ?_ ?_
        · refine s_aload_n (pc := 54) 0 dX11_line_54 rfl rfl ?_
          refine s_iload_n (pc := 55) 1 dX11_line_55 rfl rfl ?_
          refine s_callV (k := 0) (n := 0) (pc := 56) [.int v1] (fun x56 => .int x56 :: []) (fun _ => P2) dX11_line_56 (cV_X11_264 hG) (Nat.le_of_ble_eq_true rfl) rfl kd_1 (Mo_to_ok hG v1 P2) rfl (fun _ => rfl) (fun _ => rfl) (Nat.le_of_ble_eq_true rfl) rfl rfl (fun x56 => ?_)
          refine s_goto (pc := 59) 80 dX11_line_59 rfl ?_
          exact s_iret (pc := 80) dX11_line_80 rfl rfl
        · refine s_iload_n (pc := 62) 2 dX11_line_62 rfl rfl ?_
          refine s_iconst (pc := 63) (v := 2) dX11_line_63 rfl ?_
          refine s_icmp_ne (pc := 64) 75 dX11_line_64 rfl ?_ ?_
          · refine s_aload_n (pc := 67) 0 dX11_line_67 rfl rfl ?_
            refine s_iload_n (pc := 68) 1 dX11_line_68 rfl rfl ?_
            refine s_callV (k := 0) (n := 0) (pc := 69) [.int v1] (fun x69 => .int x69 :: []) (fun _ => P2) dX11_line_69 (cV_X11_258 hG) (Nat.le_of_ble_eq_true rfl) rfl kd_1 (Mo_inkOf_ok hG v1 P2) rfl (fun _ => rfl) (fun _ => rfl) (Nat.le_of_ble_eq_true rfl) rfl rfl (fun x69 => ?_)
            refine s_goto (pc := 72) 80 dX11_line_72 rfl ?_
            exact s_iret (pc := 80) dX11_line_80 rfl rfl
          · refine s_aload_n (pc := 75) 0 dX11_line_75 rfl rfl ?_
            refine s_iload_n (pc := 76) 1 dX11_line_76 rfl rfl ?_
            refine s_callV (k := 0) (n := 0) (pc := 77) [.int v1] (fun x77 => .int x77 :: []) (fun _ => P2) dX11_line_77 (cV_X11_270 hG) (Nat.le_of_ble_eq_true rfl) rfl kd_1 (Mo_worked_ok hG v1 P2) rfl (fun _ => rfl) (fun _ => rfl) (Nat.le_of_ble_eq_true rfl) rfl rfl (fun x77 => ?_)
            exact s_iret (pc := 80) dX11_line_80 rfl rfl
def Mo_lineAt_32    (P : PH) : Option (Int32 × PH) :=
  (Mo_fails (1 : Int32) P).bind fun (x34 : Int32 × PH) =>
  some (x34.1, x34.2)
set_option maxRecDepth 100000 in
set_option maxHeartbeats 4000000 in
theorem Mo_lineAt_32_sem {G : GT} {l : Launch} (hG : GOK G l)   (P : PH)   : Sem G l miX11_lineAt 0 0 (rn tIH) 32 [(0, .ref (gA G 1))] [] P (Mo_lineAt_32 P) := by
  unfold Mo_lineAt_32
  refine s_aload_n (pc := 32) 0 dX11_lineAt_32 rfl rfl ?_
  refine s_iconst (pc := 33) (v := 1) dX11_lineAt_33 rfl ?_
  refine s_callV (k := 0) (n := 0) (pc := 34) [.int ((1 : Int32))] (fun x34 => .int (x34.1) :: []) (fun x34 => x34.2) dX11_lineAt_34 (cV_X11_245 hG) (Nat.le_of_ble_eq_true rfl) rfl kd_1 (Mo_fails_ok hG (1 : Int32) P) rfl (fun _ => rfl) (fun _ => rfl) (Nat.le_of_ble_eq_true rfl) rfl rfl (fun x34 => ?_)
  exact s_iret (pc := 37) dX11_lineAt_37 rfl rfl
def Mo_lineAt  (v1 : Int32) (v2 : Int32) (P : PH) : Option (Int32 × PH) :=
  (some (sI P 1 5 (0 : Int32))).bind fun (P2 : PH) =>
  (Mo_isHole v1 P2).bind fun (x6 : Int32) =>
  if x6 = 0 then
    Mo_lineAt_32 P2
  else
    (Mo_isWay v2.toInt64 P2).bind fun (x14 : Int32) =>
    if x14 = 0 then
      Mo_lineAt_32 P2
    else
      (Mo_find 88 v1 v2 P2).bind fun (x26 : Int32) =>
      some (x26, P2)
set_option maxRecDepth 100000 in
set_option maxHeartbeats 4000000 in
theorem Mo_lineAt_ok {G : GT} {l : Launch} (hG : GOK G l)  (v1 : Int32) (v2 : Int32) (P : PH) : OkN G l yX11_lineAt miX11_lineAt 0 0 tIH [.ref (gA G 1), .int v1, .int v2] P (Mo_lineAt v1 v2 P) := by
  refine okN_of hG _ [(0, .ref (gA G 1)), (1, .int v1), (2, .int v2)] rfl rfl rfl (Nat.le_of_ble_eq_true rfl) rfl ?_
  unfold Mo_lineAt
  refine s_aload_n (pc := 0) 0 dX11_lineAt_0 rfl rfl ?_
  refine s_iconst (pc := 1) (v := 0) dX11_lineAt_1 rfl ?_
  refine s_putI (pc := 2) dX11_lineAt_2 (fp_X11_86 hG) kd_1 ?_
  refine s_letP (fun P2 => ?_)
  refine s_iload_n (pc := 5) 1 dX11_lineAt_5 rfl rfl ?_
  refine s_callS (k := 0) (n := 0) (pc := 6) [.int v1] (fun x6 => .int x6 :: []) (fun _ => P2) dX11_lineAt_6 (cS_X11_273 hG) (Nat.le_of_ble_eq_true rfl) rfl (Mo_isHole_ok hG v1 P2) rfl (fun _ => rfl) (fun _ => rfl) (Nat.le_of_ble_eq_true rfl) rfl rfl (fun x6 => ?_)
  refine s_if_eq (pc := 9) 32 dX11_lineAt_9 rfl ?_ ?_
  · refine s_sub [0] rfl ?_
    exact Mo_lineAt_32_sem hG P2
  · refine s_iload_n (pc := 12) 2 dX11_lineAt_12 rfl rfl ?_
    refine s_i2l (pc := 13) dX11_lineAt_13 ?_
    refine s_callS (k := 0) (n := 0) (pc := 14) [.long (v2.toInt64)] (fun x14 => .int x14 :: []) (fun _ => P2) dX11_lineAt_14 (cS_X11_276 hG) (Nat.le_of_ble_eq_true rfl) rfl (Mo_isWay_ok hG v2.toInt64 P2) rfl (fun _ => rfl) (fun _ => rfl) (Nat.le_of_ble_eq_true rfl) rfl rfl (fun x14 => ?_)
    refine s_if_eq (pc := 17) 32 dX11_lineAt_17 rfl ?_ ?_
    · refine s_sub [0] rfl ?_
      exact Mo_lineAt_32_sem hG P2
    · refine s_aload_n (pc := 20) 0 dX11_lineAt_20 rfl rfl ?_
      refine s_getR (pc := 21) 88 dX11_lineAt_21 (fi_X11_9 hG) kd_1 rfl ?_
      refine s_iload_n (pc := 24) 1 dX11_lineAt_24 rfl rfl ?_
      refine s_iload_n (pc := 25) 2 dX11_lineAt_25 rfl rfl ?_
      refine s_callS (k := 0) (n := 0) (pc := 26) [.ref (gA G 88), .int v1, .int v2] (fun x26 => .int x26 :: []) (fun _ => P2) dX11_lineAt_26 (cS_X11_236 hG) (Nat.le_of_ble_eq_true rfl) rfl (Mo_find_ok hG 88 ⟨kd_88, ln_88⟩ v1 v2 P2) rfl (fun _ => rfl) (fun _ => rfl) (Nat.le_of_ble_eq_true rfl) rfl rfl (fun x26 => ?_)
      refine s_goto (pc := 29) 37 dX11_lineAt_29 rfl ?_
      exact s_iret (pc := 37) dX11_lineAt_37 rfl rfl
