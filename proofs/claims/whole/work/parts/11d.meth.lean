def Mo_ends_46   (v1 : Int32) (v2 : Int32)  : Nat → Int32 → Int32 → PH → Option (Int32 × PH)
  | 0 => fun _ _ _ => none
  | n + 1 => fun v3 v4 P =>
    gdI (0 : Int32) 512 <|
    if (P.1 88 (0 : Int32).toNatClampNeg) ≤ v4 then
      some (v3, P)
    else
      (Mo_isOf v4 v2 P).bind fun (x62 : Int32) =>
      if x62 = 0 then
        (some (v3 + (0 : Int32))).bind fun (u3_84 : Int32) =>
        Mo_ends_46 v1 v2 n u3_84 (v4 + 1) P
      else
        (Mo_isAt v4 v1 P).bind fun (x72 : Int32) =>
        if x72 = 0 then
          (some (v3 + (0 : Int32))).bind fun (u3_84 : Int32) =>
          Mo_ends_46 v1 v2 n u3_84 (v4 + 1) P
        else
          (some (v3 + (1 : Int32))).bind fun (u3_84 : Int32) =>
          Mo_ends_46 v1 v2 n u3_84 (v4 + 1) P
set_option maxRecDepth 100000 in
set_option maxHeartbeats 4000000 in
theorem Mo_ends_46_sem {G : GT} {l : Launch} (hG : GOK G l)  (v1 : Int32) (v2 : Int32)    : ∀ (n : Nat) (v3 : Int32) (v4 : Int32) (P : PH), Sem G l miX11_ends 0 0 (rn tIH) 46 [(0, .ref (gA G 1)), (1, .int v1), (2, .int v2), (3, .int v3), (4, .int v4)] [] P (Mo_ends_46 v1 v2 n v3 v4 P) := by
  intro n
  induction n with
  | zero => intro v3 v4 P; exact s_none rfl
  | succ n ih =>
    intro v3 v4 P
    rw [Mo_ends_46]
    refine s_iload (pc := 46) 4 dX11_ends_46 rfl ?_
    refine s_aload_n (pc := 48) 0 dX11_ends_48 rfl rfl ?_
    refine s_getR (pc := 49) 88 dX11_ends_49 (fi_X11_9 hG) kd_1 rfl ?_
    refine s_iconst (pc := 52) (v := 0) dX11_ends_52 rfl ?_
    refine s_iald (pc := 53) 512 dX11_ends_53 kd_88 ln_88 ?_
    refine s_icmp_ge (pc := 54) 91 dX11_ends_54 rfl ?_ ?_
    · refine s_iload_n (pc := 91) 3 dX11_ends_91 rfl rfl ?_
      exact s_iret (pc := 92) dX11_ends_92 rfl rfl
    · refine s_iload_n (pc := 57) 3 dX11_ends_57 rfl rfl ?_
      refine s_aload_n (pc := 58) 0 dX11_ends_58 rfl rfl ?_
      refine s_iload (pc := 59) 4 dX11_ends_59 rfl ?_
      refine s_iload_n (pc := 61) 2 dX11_ends_61 rfl rfl ?_
      refine s_callV (k := 0) (n := 0) (pc := 62) [.int v4, .int v2] (fun x62 => .int x62 :: [.int v3]) (fun _ => P) dX11_ends_62 (cV_X11_283 hG) (Nat.le_of_ble_eq_true rfl) rfl kd_1 (Mo_isOf_ok hG v4 v2 P) rfl (fun _ => rfl) (fun _ => rfl) (Nat.le_of_ble_eq_true rfl) rfl rfl (fun x62 => ?_)
      refine s_if_eq (pc := 65) 82 dX11_ends_65 rfl ?_ ?_
      · refine s_iconst (pc := 82) (v := 0) dX11_ends_82 rfl ?_
        refine s_iadd (pc := 83) dX11_ends_83 ?_
        refine s_letI (fun u3_84 => ?_)
        refine s_istore_n (pc := 84) [(3, .int u3_84), (0, .ref (gA G 1)), (1, .int v1), (2, .int v2), (4, .int v4)] dX11_ends_84 rfl (Nat.le_of_ble_eq_true rfl) rfl ?_
        refine s_iinc (pc := 85) 4 1 [(4, .int (v4 + 1)), (3, .int u3_84), (0, .ref (gA G 1)), (1, .int v1), (2, .int v2)] dX11_ends_85 rfl rfl (Nat.le_of_ble_eq_true rfl) rfl ?_
        refine s_goto (pc := 88) 46 dX11_ends_88 rfl ?_
        refine s_sub [2, 3, 4, 1, 0] rfl ?_
        exact ih u3_84 (v4 + 1) P
      · refine s_aload_n (pc := 68) 0 dX11_ends_68 rfl rfl ?_
        refine s_iload (pc := 69) 4 dX11_ends_69 rfl ?_
        refine s_iload_n (pc := 71) 1 dX11_ends_71 rfl rfl ?_
        refine s_callV (k := 0) (n := 0) (pc := 72) [.int v4, .int v1] (fun x72 => .int x72 :: [.int v3]) (fun _ => P) dX11_ends_72 (cV_X11_287 hG) (Nat.le_of_ble_eq_true rfl) rfl kd_1 (Mo_isAt_ok hG v4 v1 P) rfl (fun _ => rfl) (fun _ => rfl) (Nat.le_of_ble_eq_true rfl) rfl rfl (fun x72 => ?_)
        refine s_if_eq (pc := 75) 82 dX11_ends_75 rfl ?_ ?_
        · refine s_iconst (pc := 82) (v := 0) dX11_ends_82 rfl ?_
          refine s_iadd (pc := 83) dX11_ends_83 ?_
          refine s_letI (fun u3_84 => ?_)
          refine s_istore_n (pc := 84) [(3, .int u3_84), (0, .ref (gA G 1)), (1, .int v1), (2, .int v2), (4, .int v4)] dX11_ends_84 rfl (Nat.le_of_ble_eq_true rfl) rfl ?_
          refine s_iinc (pc := 85) 4 1 [(4, .int (v4 + 1)), (3, .int u3_84), (0, .ref (gA G 1)), (1, .int v1), (2, .int v2)] dX11_ends_85 rfl rfl (Nat.le_of_ble_eq_true rfl) rfl ?_
          refine s_goto (pc := 88) 46 dX11_ends_88 rfl ?_
          refine s_sub [2, 3, 4, 1, 0] rfl ?_
          exact ih u3_84 (v4 + 1) P
        · refine s_iconst (pc := 78) (v := 1) dX11_ends_78 rfl ?_
          refine s_goto (pc := 79) 83 dX11_ends_79 rfl ?_
          refine s_iadd (pc := 83) dX11_ends_83 ?_
          refine s_letI (fun u3_84 => ?_)
          refine s_istore_n (pc := 84) [(3, .int u3_84), (0, .ref (gA G 1)), (1, .int v1), (2, .int v2), (4, .int v4)] dX11_ends_84 rfl (Nat.le_of_ble_eq_true rfl) rfl ?_
          refine s_iinc (pc := 85) 4 1 [(4, .int (v4 + 1)), (3, .int u3_84), (0, .ref (gA G 1)), (1, .int v1), (2, .int v2)] dX11_ends_85 rfl rfl (Nat.le_of_ble_eq_true rfl) rfl ?_
          refine s_goto (pc := 88) 46 dX11_ends_88 rfl ?_
          refine s_sub [2, 3, 4, 1, 0] rfl ?_
          exact ih u3_84 (v4 + 1) P
def Mo_ends_29   (v1 : Int32) (v2 : Int32) (s0 : Int32) (P : PH) : Option (Int32 × PH) :=
  (some (sI P 1 5 s0)).bind fun (P29 : PH) =>
  if (P29.1 1 5) ≤ 0 then
    Mo_ends_46 v1 v2 bigN (0 : Int32) (0 : Int32) P29
  else
    some ((0 : Int32), P29)
set_option maxRecDepth 100000 in
set_option maxHeartbeats 4000000 in
theorem Mo_ends_29_sem {G : GT} {l : Launch} (hG : GOK G l)  (v1 : Int32) (v2 : Int32) (s0 : Int32) (P : PH)   : Sem G l miX11_ends 0 0 (rn tIH) 29 [(0, .ref (gA G 1)), (1, .int v1), (2, .int v2)] [.int s0, .ref (gA G 1)] P (Mo_ends_29 v1 v2 s0 P) := by
  unfold Mo_ends_29
  refine s_putI (pc := 29) dX11_ends_29 (fp_X11_86 hG) kd_1 ?_
  refine s_letP (fun P29 => ?_)
  refine s_aload_n (pc := 32) 0 dX11_ends_32 rfl rfl ?_
  refine s_getI (pc := 33) dX11_ends_33 (fi_X11_86 hG) kd_1 ?_
  refine s_if_le (pc := 36) 41 dX11_ends_36 rfl ?_ ?_
  · refine s_iconst (pc := 41) (v := 0) dX11_ends_41 rfl ?_
    refine s_istore_n (pc := 42) [(3, .int ((0 : Int32))), (0, .ref (gA G 1)), (1, .int v1), (2, .int v2)] dX11_ends_42 rfl (Nat.le_of_ble_eq_true rfl) rfl ?_
    refine s_iconst (pc := 43) (v := 0) dX11_ends_43 rfl ?_
    refine s_istore (pc := 44) [(4, .int ((0 : Int32))), (3, .int ((0 : Int32))), (0, .ref (gA G 1)), (1, .int v1), (2, .int v2)] dX11_ends_44 (Nat.le_of_ble_eq_true rfl) rfl ?_
    refine s_sub [2, 3, 4, 1, 0] rfl ?_
    exact Mo_ends_46_sem hG v1 v2 bigN (0 : Int32) (0 : Int32) P29
  · refine s_iconst (pc := 39) (v := 0) dX11_ends_39 rfl ?_
    exact s_iret (pc := 40) dX11_ends_40 rfl rfl
def Mo_ends  (v1 : Int32) (v2 : Int32) (P : PH) : Option (Int32 × PH) :=
  (Mo_isHole v1 P).bind fun (x2 : Int32) =>
  if x2 = 0 then
    Mo_ends_29 v1 v2 (1 : Int32) P
  else
    if v2 = (-1 : Int32) then
      Mo_ends_29 v1 v2 (0 : Int32) P
    else
      (Mo_isInk v2 P).bind fun (x18 : Int32) =>
      if x18 = 0 then
        Mo_ends_29 v1 v2 (2 : Int32) P
      else
        Mo_ends_29 v1 v2 (0 : Int32) P
set_option maxRecDepth 100000 in
set_option maxHeartbeats 4000000 in
theorem Mo_ends_ok {G : GT} {l : Launch} (hG : GOK G l)  (v1 : Int32) (v2 : Int32) (P : PH) : OkN G l yX11_ends miX11_ends 0 0 tIH [.ref (gA G 1), .int v1, .int v2] P (Mo_ends v1 v2 P) := by
  refine okN_of hG _ [(0, .ref (gA G 1)), (1, .int v1), (2, .int v2)] rfl rfl rfl (Nat.le_of_ble_eq_true rfl) rfl ?_
  unfold Mo_ends
  refine s_aload_n (pc := 0) 0 dX11_ends_0 rfl rfl ?_
  refine s_iload_n (pc := 1) 1 dX11_ends_1 rfl rfl ?_
  refine s_callS (k := 0) (n := 0) (pc := 2) [.int v1] (fun x2 => .int x2 :: [.ref (gA G 1)]) (fun _ => P) dX11_ends_2 (cS_X11_273 hG) (Nat.le_of_ble_eq_true rfl) rfl (Mo_isHole_ok hG v1 P) rfl (fun _ => rfl) (fun _ => rfl) (Nat.le_of_ble_eq_true rfl) rfl rfl (fun x2 => ?_)
  refine s_if_ne (pc := 5) 12 dX11_ends_5 rfl ?_ ?_
  · refine s_iconst (pc := 8) (v := 1) dX11_ends_8 rfl ?_
    refine s_goto (pc := 9) 29 dX11_ends_9 rfl ?_
    exact Mo_ends_29_sem hG v1 v2 (1 : Int32) P
  · refine s_iload_n (pc := 12) 2 dX11_ends_12 rfl rfl ?_
    refine s_iconst (pc := 13) (v := -1) dX11_ends_13 rfl ?_
    refine s_icmp_eq (pc := 14) 24 dX11_ends_14 rfl ?_ ?_
    · refine s_iconst (pc := 24) (v := 0) dX11_ends_24 rfl ?_
      refine s_goto (pc := 25) 29 dX11_ends_25 rfl ?_
      exact Mo_ends_29_sem hG v1 v2 (0 : Int32) P
    · refine s_iload_n (pc := 17) 2 dX11_ends_17 rfl rfl ?_
      refine s_callS (k := 0) (n := 0) (pc := 18) [.int v2] (fun x18 => .int x18 :: [.ref (gA G 1)]) (fun _ => P) dX11_ends_18 (cS_X11_280 hG) (Nat.le_of_ble_eq_true rfl) rfl (Mo_isInk_ok hG v2 P) rfl (fun _ => rfl) (fun _ => rfl) (Nat.le_of_ble_eq_true rfl) rfl rfl (fun x18 => ?_)
      refine s_if_eq (pc := 21) 28 dX11_ends_21 rfl ?_ ?_
      · refine s_iconst (pc := 28) (v := 2) dX11_ends_28 rfl ?_
        exact Mo_ends_29_sem hG v1 v2 (2 : Int32) P
      · refine s_iconst (pc := 24) (v := 0) dX11_ends_24 rfl ?_
        refine s_goto (pc := 25) 29 dX11_ends_25 rfl ?_
        exact Mo_ends_29_sem hG v1 v2 (0 : Int32) P
def Mo_knot_9     : Nat → Int32 → Int32 → PH → Option (Int32 × PH)
  | 0 => fun _ _ _ => none
  | n + 1 => fun v2 v3 P =>
    if (144 : Int32) ≤ v3 then
      some ((-1 : Int32), P)
    else
      gdI ((248 : Int32) + v3) 512 <|
      if (P.1 88 ((248 : Int32) + v3).toNatClampNeg) = 0 then
        Mo_knot_9  n v2 (v3 + 1) P
      else
        if v2 = 0 then
          some (v3, P)
        else
          Mo_knot_9  n (v2 + (-1)) (v3 + 1) P
set_option maxRecDepth 100000 in
set_option maxHeartbeats 4000000 in
theorem Mo_knot_9_sem {G : GT} {l : Launch} (hG : GOK G l)      : ∀ (n : Nat) (v2 : Int32) (v3 : Int32) (P : PH), Sem G l miX11_knot 0 0 (rn tIH) 9 [(0, .ref (gA G 1)), (2, .int v2), (3, .int v3)] [] P (Mo_knot_9  n v2 v3 P) := by
  intro n
  induction n with
  | zero => intro v2 v3 P; exact s_none rfl
  | succ n ih =>
    intro v2 v3 P
    rw [Mo_knot_9]
    refine s_iload_n (pc := 9) 2 dX11_knot_9 rfl rfl ?_
    refine s_sipush (pc := 10) (v := 144) dX11_knot_10 rfl ?_
    refine s_icmp_ge (pc := 13) 47 dX11_knot_13 rfl ?_ ?_
    · refine s_iconst (pc := 47) (v := -1) dX11_knot_47 rfl ?_
      exact s_iret (pc := 48) dX11_knot_48 rfl rfl
    · refine s_aload_n (pc := 16) 0 dX11_knot_16 rfl rfl ?_
      refine s_getR (pc := 17) 88 dX11_knot_17 (fi_X11_9 hG) kd_1 rfl ?_
      refine s_sipush (pc := 20) (v := 248) dX11_knot_20 rfl ?_
      refine s_iload_n (pc := 23) 2 dX11_knot_23 rfl rfl ?_
      refine s_iadd (pc := 24) dX11_knot_24 ?_
      refine s_iald (pc := 25) 512 dX11_knot_25 kd_88 ln_88 ?_
      refine s_if_ne (pc := 26) 32 dX11_knot_26 rfl ?_ ?_
      · refine s_goto (pc := 29) 41 dX11_knot_29 rfl ?_
        refine s_iinc (pc := 41) 2 1 [(3, .int (v3 + 1)), (0, .ref (gA G 1)), (2, .int v2)] dX11_knot_41 rfl rfl (Nat.le_of_ble_eq_true rfl) rfl ?_
        refine s_goto (pc := 44) 9 dX11_knot_44 rfl ?_
        refine s_sub [1, 2, 0] rfl ?_
        exact ih v2 (v3 + 1) P
      · refine s_iload_n (pc := 32) 1 dX11_knot_32 rfl rfl ?_
        refine s_if_ne (pc := 33) 38 dX11_knot_33 rfl ?_ ?_
        · refine s_iload_n (pc := 36) 2 dX11_knot_36 rfl rfl ?_
          exact s_iret (pc := 37) dX11_knot_37 rfl rfl
        · refine s_iinc (pc := 38) 1 (-1) [(2, .int (v2 + (-1))), (0, .ref (gA G 1)), (3, .int v3)] dX11_knot_38 rfl rfl (Nat.le_of_ble_eq_true rfl) rfl ?_
          refine s_iinc (pc := 41) 2 1 [(3, .int (v3 + 1)), (2, .int (v2 + (-1))), (0, .ref (gA G 1))] dX11_knot_41 rfl rfl (Nat.le_of_ble_eq_true rfl) rfl ?_
          refine s_goto (pc := 44) 9 dX11_knot_44 rfl ?_
          refine s_sub [2, 1, 0] rfl ?_
          exact ih (v2 + (-1)) (v3 + 1) P
def Mo_knot  (v1 : Int32) (P : PH) : Option (Int32 × PH) :=
  (some (sI P 1 5 (0 : Int32))).bind fun (P2 : PH) =>
  Mo_knot_9  bigN v1 (0 : Int32) P2
set_option maxRecDepth 100000 in
set_option maxHeartbeats 4000000 in
theorem Mo_knot_ok {G : GT} {l : Launch} (hG : GOK G l)  (v1 : Int32) (P : PH) : OkN G l yX11_knot miX11_knot 0 0 tIH [.ref (gA G 1), .int v1] P (Mo_knot v1 P) := by
  refine okN_of hG _ [(0, .ref (gA G 1)), (1, .int v1)] rfl rfl rfl (Nat.le_of_ble_eq_true rfl) rfl ?_
  unfold Mo_knot
  refine s_aload_n (pc := 0) 0 dX11_knot_0 rfl rfl ?_
  refine s_iconst (pc := 1) (v := 0) dX11_knot_1 rfl ?_
  refine s_putI (pc := 2) dX11_knot_2 (fp_X11_86 hG) kd_1 ?_
  refine s_letP (fun P2 => ?_)
  refine s_iload_n (pc := 5) 1 dX11_knot_5 rfl rfl ?_
  refine s_istore_n (pc := 6) [(2, .int v1), (0, .ref (gA G 1)), (1, .int v1)] dX11_knot_6 rfl (Nat.le_of_ble_eq_true rfl) rfl ?_
  refine s_iconst (pc := 7) (v := 0) dX11_knot_7 rfl ?_
  refine s_istore_n (pc := 8) [(3, .int ((0 : Int32))), (2, .int v1), (0, .ref (gA G 1)), (1, .int v1)] dX11_knot_8 rfl (Nat.le_of_ble_eq_true rfl) rfl ?_
  refine s_sub [2, 1, 0] rfl ?_
  exact Mo_knot_9_sem hG  bigN v1 (0 : Int32) P2
def Mo_layHangs_153  (r66 : Int32 → PH → Option (PH)) (r77 : Int32 → Int32 → PH → Option (PH)) (v2 : Int32) (v3 : Int32) (v5 : Int32) (P : PH) : Option (PH) :=
  gdI v5 60 <|
  (some (sI P 99 v5.toNatClampNeg (vp_nar .boolean (1 : Int32)))).bind fun (P160 : PH) =>
  (Mo_from v5 P160).bind fun (x168 : Int32) =>
  gdI x168 144 <|
  (some (sI P160 100 x168.toNatClampNeg (vp_nar .boolean (1 : Int32)))).bind fun (P172 : PH) =>
  (Mo_to v5 P172).bind fun (x180 : Int32) =>
  gdI x180 144 <|
  (some (sI P172 100 x180.toNatClampNeg (vp_nar .boolean (1 : Int32)))).bind fun (P184 : PH) =>
  r77 (1 : Int32) (v5 + 1) P184
set_option maxRecDepth 100000 in
set_option maxHeartbeats 4000000 in
theorem Mo_layHangs_153_sem {G : GT} {l : Launch} (hG : GOK G l)  (v2 : Int32) (v3 : Int32) (v5 : Int32) (P : PH)  (r66 : Int32 → PH → Option (PH)) (hr66 : ∀ (v4 : Int32) (P : PH), Sem G l miX11_layHangs 0 0 (rn tVH) 66 [(0, .ref (gA G 1)), (2, .int v2), (3, .int v3), (4, .int v4)] [] P (r66 v4 P)) (r77 : Int32 → Int32 → PH → Option (PH)) (hr77 : ∀ (v4 : Int32) (v5 : Int32) (P : PH), Sem G l miX11_layHangs 0 0 (rn tVH) 77 [(0, .ref (gA G 1)), (2, .int v2), (3, .int v3), (4, .int v4), (5, .int v5)] [] P (r77 v4 v5 P)) : Sem G l miX11_layHangs 0 0 (rn tVH) 153 [(0, .ref (gA G 1)), (2, .int v2), (3, .int v3), (5, .int v5)] [] P (Mo_layHangs_153 r66 r77 v2 v3 v5 P) := by
  unfold Mo_layHangs_153
  refine s_aload_n (pc := 153) 0 dX11_layHangs_153 rfl rfl ?_
  refine s_getR (pc := 154) 99 dX11_layHangs_154 (fi_X11_48 hG) kd_1 rfl ?_
  refine s_iload (pc := 157) 3 dX11_layHangs_157 rfl ?_
  refine s_iconst (pc := 159) (v := 1) dX11_layHangs_159 rfl ?_
  refine s_zast (pc := 160) 60 dX11_layHangs_160 kd_99 ln_99 ?_
  refine s_letP (fun P160 => ?_)
  refine s_aload_n (pc := 161) 0 dX11_layHangs_161 rfl rfl ?_
  refine s_getR (pc := 162) 100 dX11_layHangs_162 (fi_X11_51 hG) kd_1 rfl ?_
  refine s_aload_n (pc := 165) 0 dX11_layHangs_165 rfl rfl ?_
  refine s_iload (pc := 166) 3 dX11_layHangs_166 rfl ?_
  refine s_callV (k := 0) (n := 0) (pc := 168) [.int v5] (fun x168 => .int x168 :: [.ref (gA G 100)]) (fun _ => P160) dX11_layHangs_168 (cV_X11_261 hG) (Nat.le_of_ble_eq_true rfl) rfl kd_1 (Mo_from_ok hG v5 P160) rfl (fun _ => rfl) (fun _ => rfl) (Nat.le_of_ble_eq_true rfl) rfl rfl (fun x168 => ?_)
  refine s_iconst (pc := 171) (v := 1) dX11_layHangs_171 rfl ?_
  refine s_zast (pc := 172) 144 dX11_layHangs_172 kd_100 ln_100 ?_
  refine s_letP (fun P172 => ?_)
  refine s_aload_n (pc := 173) 0 dX11_layHangs_173 rfl rfl ?_
  refine s_getR (pc := 174) 100 dX11_layHangs_174 (fi_X11_51 hG) kd_1 rfl ?_
  refine s_aload_n (pc := 177) 0 dX11_layHangs_177 rfl rfl ?_
  refine s_iload (pc := 178) 3 dX11_layHangs_178 rfl ?_
  refine s_callV (k := 0) (n := 0) (pc := 180) [.int v5] (fun x180 => .int x180 :: [.ref (gA G 100)]) (fun _ => P172) dX11_layHangs_180 (cV_X11_264 hG) (Nat.le_of_ble_eq_true rfl) rfl kd_1 (Mo_to_ok hG v5 P172) rfl (fun _ => rfl) (fun _ => rfl) (Nat.le_of_ble_eq_true rfl) rfl rfl (fun x180 => ?_)
  refine s_iconst (pc := 183) (v := 1) dX11_layHangs_183 rfl ?_
  refine s_zast (pc := 184) 144 dX11_layHangs_184 kd_100 ln_100 ?_
  refine s_letP (fun P184 => ?_)
  refine s_iconst (pc := 185) (v := 1) dX11_layHangs_185 rfl ?_
  refine s_istore (pc := 186) [(4, .int ((1 : Int32))), (0, .ref (gA G 1)), (2, .int v2), (3, .int v3), (5, .int v5)] dX11_layHangs_186 (Nat.le_of_ble_eq_true rfl) rfl ?_
  refine s_iinc (pc := 188) 4 1 [(5, .int (v5 + 1)), (4, .int ((1 : Int32))), (0, .ref (gA G 1)), (2, .int v2), (3, .int v3)] dX11_layHangs_188 rfl rfl (Nat.le_of_ble_eq_true rfl) rfl ?_
  refine s_goto (pc := 191) 77 dX11_layHangs_191 rfl ?_
  refine s_sub [2, 3, 4, 1, 0] rfl ?_
  exact hr77 (1 : Int32) (v5 + 1) P184
def Mo_layHangs_122  (r66 : Int32 → PH → Option (PH)) (r77 : Int32 → Int32 → PH → Option (PH)) (v2 : Int32) (v3 : Int32) (v4 : Int32) (v5 : Int32) (P : PH) : Option (PH) :=
  (Mo_from v5 P).bind fun (x129 : Int32) =>
  gdI x129 144 <|
  if (P.1 100 x129.toNatClampNeg) = 0 then
    (Mo_to v5 P).bind fun (x143 : Int32) =>
    gdI x143 144 <|
    if (P.1 100 x143.toNatClampNeg) = 0 then
      r77 v4 (v5 + 1) P
    else
      Mo_layHangs_153 r66 r77 v2 v3 v5 P
  else
    Mo_layHangs_153 r66 r77 v2 v3 v5 P
set_option maxRecDepth 100000 in
set_option maxHeartbeats 4000000 in
theorem Mo_layHangs_122_sem {G : GT} {l : Launch} (hG : GOK G l)  (v2 : Int32) (v3 : Int32) (v4 : Int32) (v5 : Int32) (P : PH)  (r66 : Int32 → PH → Option (PH)) (hr66 : ∀ (v4 : Int32) (P : PH), Sem G l miX11_layHangs 0 0 (rn tVH) 66 [(0, .ref (gA G 1)), (2, .int v2), (3, .int v3), (4, .int v4)] [] P (r66 v4 P)) (r77 : Int32 → Int32 → PH → Option (PH)) (hr77 : ∀ (v4 : Int32) (v5 : Int32) (P : PH), Sem G l miX11_layHangs 0 0 (rn tVH) 77 [(0, .ref (gA G 1)), (2, .int v2), (3, .int v3), (4, .int v4), (5, .int v5)] [] P (r77 v4 v5 P)) : Sem G l miX11_layHangs 0 0 (rn tVH) 122 [(0, .ref (gA G 1)), (2, .int v2), (3, .int v3), (4, .int v4), (5, .int v5)] [] P (Mo_layHangs_122 r66 r77 v2 v3 v4 v5 P) := by
  unfold Mo_layHangs_122
  refine s_aload_n (pc := 122) 0 dX11_layHangs_122 rfl rfl ?_
  refine s_getR (pc := 123) 100 dX11_layHangs_123 (fi_X11_51 hG) kd_1 rfl ?_
  refine s_aload_n (pc := 126) 0 dX11_layHangs_126 rfl rfl ?_
  refine s_iload (pc := 127) 4 dX11_layHangs_127 rfl ?_
  refine s_callV (k := 0) (n := 0) (pc := 129) [.int v5] (fun x129 => .int x129 :: [.ref (gA G 100)]) (fun _ => P) dX11_layHangs_129 (cV_X11_261 hG) (Nat.le_of_ble_eq_true rfl) rfl kd_1 (Mo_from_ok hG v5 P) rfl (fun _ => rfl) (fun _ => rfl) (Nat.le_of_ble_eq_true rfl) rfl rfl (fun x129 => ?_)
  refine s_zald (pc := 132) 144 dX11_layHangs_132 kd_100 ln_100 ?_
  refine s_if_ne (pc := 133) 153 dX11_layHangs_133 rfl ?_ ?_
  · refine s_aload_n (pc := 136) 0 dX11_layHangs_136 rfl rfl ?_
    refine s_getR (pc := 137) 100 dX11_layHangs_137 (fi_X11_51 hG) kd_1 rfl ?_
    refine s_aload_n (pc := 140) 0 dX11_layHangs_140 rfl rfl ?_
    refine s_iload (pc := 141) 4 dX11_layHangs_141 rfl ?_
    refine s_callV (k := 0) (n := 0) (pc := 143) [.int v5] (fun x143 => .int x143 :: [.ref (gA G 100)]) (fun _ => P) dX11_layHangs_143 (cV_X11_264 hG) (Nat.le_of_ble_eq_true rfl) rfl kd_1 (Mo_to_ok hG v5 P) rfl (fun _ => rfl) (fun _ => rfl) (Nat.le_of_ble_eq_true rfl) rfl rfl (fun x143 => ?_)
    refine s_zald (pc := 146) 144 dX11_layHangs_146 kd_100 ln_100 ?_
    refine s_if_ne (pc := 147) 153 dX11_layHangs_147 rfl ?_ ?_
    · refine s_goto (pc := 150) 188 dX11_layHangs_150 rfl ?_
      refine s_iinc (pc := 188) 4 1 [(5, .int (v5 + 1)), (0, .ref (gA G 1)), (2, .int v2), (3, .int v3), (4, .int v4)] dX11_layHangs_188 rfl rfl (Nat.le_of_ble_eq_true rfl) rfl ?_
      refine s_goto (pc := 191) 77 dX11_layHangs_191 rfl ?_
      refine s_sub [1, 2, 3, 4, 0] rfl ?_
      exact hr77 v4 (v5 + 1) P
    · refine s_sub [0, 1, 2, 4] rfl ?_
      exact Mo_layHangs_153_sem hG v2 v3 v5 P r66 hr66 r77 hr77
  · refine s_sub [0, 1, 2, 4] rfl ?_
    exact Mo_layHangs_153_sem hG v2 v3 v5 P r66 hr66 r77 hr77
def Mo_layHangs_77  (r66 : Int32 → PH → Option (PH)) (v2 : Int32) (v3 : Int32)  : Nat → Int32 → Int32 → PH → Option (PH)
  | 0 => fun _ _ _ => none
  | n + 1 => fun v4 v5 P =>
    gdI (0 : Int32) 512 <|
    if (P.1 88 (0 : Int32).toNatClampNeg) ≤ v5 then
      r66 v4 P
    else
      gdI v5 60 <|
      if (P.1 99 v5.toNatClampNeg) = 0 then
        (Mo_inkOf v5 P).bind fun (x101 : Int32) =>
        if x101 = v2 then
          if v3 = 0 then
            (Mo_worked v5 P).bind fun (x115 : Int32) =>
            if x115 = (3 : Int32) then
              Mo_layHangs_77 r66 v2 v3 n v4 (v5 + 1) P
            else
              Mo_layHangs_122 r66 (Mo_layHangs_77 r66 v2 v3 n) v2 v3 v4 v5 P
          else
            Mo_layHangs_122 r66 (Mo_layHangs_77 r66 v2 v3 n) v2 v3 v4 v5 P
        else
          Mo_layHangs_77 r66 v2 v3 n v4 (v5 + 1) P
      else
        Mo_layHangs_77 r66 v2 v3 n v4 (v5 + 1) P
set_option maxRecDepth 100000 in
set_option maxHeartbeats 4000000 in
theorem Mo_layHangs_77_sem {G : GT} {l : Launch} (hG : GOK G l)  (v2 : Int32) (v3 : Int32)   (r66 : Int32 → PH → Option (PH)) (hr66 : ∀ (v4 : Int32) (P : PH), Sem G l miX11_layHangs 0 0 (rn tVH) 66 [(0, .ref (gA G 1)), (2, .int v2), (3, .int v3), (4, .int v4)] [] P (r66 v4 P)) : ∀ (n : Nat) (v4 : Int32) (v5 : Int32) (P : PH), Sem G l miX11_layHangs 0 0 (rn tVH) 77 [(0, .ref (gA G 1)), (2, .int v2), (3, .int v3), (4, .int v4), (5, .int v5)] [] P (Mo_layHangs_77 r66 v2 v3 n v4 v5 P) := by
  intro n
  induction n with
  | zero => intro v4 v5 P; exact s_none rfl
  | succ n ih =>
    intro v4 v5 P
    rw [Mo_layHangs_77]
    refine s_iload (pc := 77) 4 dX11_layHangs_77 rfl ?_
    refine s_aload_n (pc := 79) 0 dX11_layHangs_79 rfl rfl ?_
    refine s_getR (pc := 80) 88 dX11_layHangs_80 (fi_X11_9 hG) kd_1 rfl ?_
    refine s_iconst (pc := 83) (v := 0) dX11_layHangs_83 rfl ?_
    refine s_iald (pc := 84) 512 dX11_layHangs_84 kd_88 ln_88 ?_
    refine s_icmp_ge (pc := 85) 194 dX11_layHangs_85 rfl ?_ ?_
    · refine s_goto (pc := 194) 66 dX11_layHangs_194 rfl ?_
      refine s_sub [0, 1, 2, 3] rfl ?_
      exact hr66 v4 P
    · refine s_aload_n (pc := 88) 0 dX11_layHangs_88 rfl rfl ?_
      refine s_getR (pc := 89) 99 dX11_layHangs_89 (fi_X11_48 hG) kd_1 rfl ?_
      refine s_iload (pc := 92) 4 dX11_layHangs_92 rfl ?_
      refine s_zald (pc := 94) 60 dX11_layHangs_94 kd_99 ln_99 ?_
      refine s_if_ne (pc := 95) 188 dX11_layHangs_95 rfl ?_ ?_
      · refine s_aload_n (pc := 98) 0 dX11_layHangs_98 rfl rfl ?_
        refine s_iload (pc := 99) 4 dX11_layHangs_99 rfl ?_
        refine s_callV (k := 0) (n := 0) (pc := 101) [.int v5] (fun x101 => .int x101 :: []) (fun _ => P) dX11_layHangs_101 (cV_X11_258 hG) (Nat.le_of_ble_eq_true rfl) rfl kd_1 (Mo_inkOf_ok hG v5 P) rfl (fun _ => rfl) (fun _ => rfl) (Nat.le_of_ble_eq_true rfl) rfl rfl (fun x101 => ?_)
        refine s_iload_n (pc := 104) 1 dX11_layHangs_104 rfl rfl ?_
        refine s_icmp_ne (pc := 105) 188 dX11_layHangs_105 rfl ?_ ?_
        · refine s_iload_n (pc := 108) 2 dX11_layHangs_108 rfl rfl ?_
          refine s_if_ne (pc := 109) 122 dX11_layHangs_109 rfl ?_ ?_
          · refine s_aload_n (pc := 112) 0 dX11_layHangs_112 rfl rfl ?_
            refine s_iload (pc := 113) 4 dX11_layHangs_113 rfl ?_
            refine s_callV (k := 0) (n := 0) (pc := 115) [.int v5] (fun x115 => .int x115 :: []) (fun _ => P) dX11_layHangs_115 (cV_X11_270 hG) (Nat.le_of_ble_eq_true rfl) rfl kd_1 (Mo_worked_ok hG v5 P) rfl (fun _ => rfl) (fun _ => rfl) (Nat.le_of_ble_eq_true rfl) rfl rfl (fun x115 => ?_)
            refine s_iconst (pc := 118) (v := 3) dX11_layHangs_118 rfl ?_
            refine s_icmp_eq (pc := 119) 188 dX11_layHangs_119 rfl ?_ ?_
            · refine s_iinc (pc := 188) 4 1 [(5, .int (v5 + 1)), (0, .ref (gA G 1)), (2, .int v2), (3, .int v3), (4, .int v4)] dX11_layHangs_188 rfl rfl (Nat.le_of_ble_eq_true rfl) rfl ?_
              refine s_goto (pc := 191) 77 dX11_layHangs_191 rfl ?_
              refine s_sub [1, 2, 3, 4, 0] rfl ?_
              exact ih v4 (v5 + 1) P
            · exact Mo_layHangs_122_sem hG v2 v3 v4 v5 P r66 hr66 (Mo_layHangs_77 r66 v2 v3 n) ih
          · exact Mo_layHangs_122_sem hG v2 v3 v4 v5 P r66 hr66 (Mo_layHangs_77 r66 v2 v3 n) ih
        · refine s_iinc (pc := 188) 4 1 [(5, .int (v5 + 1)), (0, .ref (gA G 1)), (2, .int v2), (3, .int v3), (4, .int v4)] dX11_layHangs_188 rfl rfl (Nat.le_of_ble_eq_true rfl) rfl ?_
          refine s_goto (pc := 191) 77 dX11_layHangs_191 rfl ?_
          refine s_sub [1, 2, 3, 4, 0] rfl ?_
          exact ih v4 (v5 + 1) P
      · refine s_iinc (pc := 188) 4 1 [(5, .int (v5 + 1)), (0, .ref (gA G 1)), (2, .int v2), (3, .int v3), (4, .int v4)] dX11_layHangs_188 rfl rfl (Nat.le_of_ble_eq_true rfl) rfl ?_
        refine s_goto (pc := 191) 77 dX11_layHangs_191 rfl ?_
        refine s_sub [1, 2, 3, 4, 0] rfl ?_
        exact ih v4 (v5 + 1) P
def Mo_layHangs_66   (v2 : Int32) (v3 : Int32)  : Nat → Int32 → PH → Option (PH)
  | 0 => fun _ _ => none
  | n + 1 => fun v4 P =>
    if v4 = 0 then
      some P
    else
      Mo_layHangs_77 (Mo_layHangs_66 v2 v3 n) v2 v3 bigN (0 : Int32) (0 : Int32) P
set_option maxRecDepth 100000 in
set_option maxHeartbeats 4000000 in
theorem Mo_layHangs_66_sem {G : GT} {l : Launch} (hG : GOK G l)  (v2 : Int32) (v3 : Int32)    : ∀ (n : Nat) (v4 : Int32) (P : PH), Sem G l miX11_layHangs 0 0 (rn tVH) 66 [(0, .ref (gA G 1)), (2, .int v2), (3, .int v3), (4, .int v4)] [] P (Mo_layHangs_66 v2 v3 n v4 P) := by
  intro n
  induction n with
  | zero => intro v4 P; exact s_none rfl
  | succ n ih =>
    intro v4 P
    rw [Mo_layHangs_66]
    refine s_iload (pc := 66) 3 dX11_layHangs_66 rfl ?_
    refine s_if_eq (pc := 68) 197 dX11_layHangs_68 rfl ?_ ?_
    · exact s_vret (pc := 197) dX11_layHangs_197 rfl rfl
    · refine s_iconst (pc := 71) (v := 0) dX11_layHangs_71 rfl ?_
      refine s_istore (pc := 72) [(4, .int ((0 : Int32))), (0, .ref (gA G 1)), (2, .int v2), (3, .int v3)] dX11_layHangs_72 (Nat.le_of_ble_eq_true rfl) rfl ?_
      refine s_iconst (pc := 74) (v := 0) dX11_layHangs_74 rfl ?_
      refine s_istore (pc := 75) [(5, .int ((0 : Int32))), (4, .int ((0 : Int32))), (0, .ref (gA G 1)), (2, .int v2), (3, .int v3)] dX11_layHangs_75 (Nat.le_of_ble_eq_true rfl) rfl ?_
      refine s_sub [2, 3, 4, 1, 0] rfl ?_
      exact Mo_layHangs_77_sem hG v2 v3 (Mo_layHangs_66 v2 v3 n) ih bigN (0 : Int32) (0 : Int32) P
def Mo_layHangs_38   (v2 : Int32) (v3 : Int32)  : Nat → Int32 → PH → Option (PH)
  | 0 => fun _ _ => none
  | n + 1 => fun v4 P =>
    gdI (0 : Int32) 512 <|
    if (P.1 88 (0 : Int32).toNatClampNeg) ≤ v4 then
      Mo_layHangs_66 v2 v3 bigN (1 : Int32) P
    else
      gdI v4 60 <|
      (some (sI P 99 v4.toNatClampNeg (vp_nar .boolean (0 : Int32)))).bind fun (P56 : PH) =>
      Mo_layHangs_38 v2 v3 n (v4 + 1) P56
set_option maxRecDepth 100000 in
set_option maxHeartbeats 4000000 in
theorem Mo_layHangs_38_sem {G : GT} {l : Launch} (hG : GOK G l)  (v2 : Int32) (v3 : Int32)    : ∀ (n : Nat) (v4 : Int32) (P : PH), Sem G l miX11_layHangs 0 0 (rn tVH) 38 [(0, .ref (gA G 1)), (2, .int v2), (3, .int v3), (4, .int v4)] [] P (Mo_layHangs_38 v2 v3 n v4 P) := by
  intro n
  induction n with
  | zero => intro v4 P; exact s_none rfl
  | succ n ih =>
    intro v4 P
    rw [Mo_layHangs_38]
    refine s_iload (pc := 38) 3 dX11_layHangs_38 rfl ?_
    refine s_aload_n (pc := 40) 0 dX11_layHangs_40 rfl rfl ?_
    refine s_getR (pc := 41) 88 dX11_layHangs_41 (fi_X11_9 hG) kd_1 rfl ?_
    refine s_iconst (pc := 44) (v := 0) dX11_layHangs_44 rfl ?_
    refine s_iald (pc := 45) 512 dX11_layHangs_45 kd_88 ln_88 ?_
    refine s_icmp_ge (pc := 46) 63 dX11_layHangs_46 rfl ?_ ?_
    · refine s_iconst (pc := 63) (v := 1) dX11_layHangs_63 rfl ?_
      refine s_istore (pc := 64) [(4, .int ((1 : Int32))), (0, .ref (gA G 1)), (2, .int v2), (3, .int v3)] dX11_layHangs_64 (Nat.le_of_ble_eq_true rfl) rfl ?_
      refine s_sub [1, 2, 3, 0] rfl ?_
      exact Mo_layHangs_66_sem hG v2 v3 bigN (1 : Int32) P
    · refine s_aload_n (pc := 49) 0 dX11_layHangs_49 rfl rfl ?_
      refine s_getR (pc := 50) 99 dX11_layHangs_50 (fi_X11_48 hG) kd_1 rfl ?_
      refine s_iload (pc := 53) 3 dX11_layHangs_53 rfl ?_
      refine s_iconst (pc := 55) (v := 0) dX11_layHangs_55 rfl ?_
      refine s_zast (pc := 56) 60 dX11_layHangs_56 kd_99 ln_99 ?_
      refine s_letP (fun P56 => ?_)
      refine s_iinc (pc := 57) 3 1 [(4, .int (v4 + 1)), (0, .ref (gA G 1)), (2, .int v2), (3, .int v3)] dX11_layHangs_57 rfl rfl (Nat.le_of_ble_eq_true rfl) rfl ?_
      refine s_goto (pc := 60) 38 dX11_layHangs_60 rfl ?_
      refine s_sub [1, 2, 3, 0] rfl ?_
      exact ih (v4 + 1) P56
def Mo_layHangs_3   (v1 : Int32) (v2 : Int32) (v3 : Int32)  : Nat → Int32 → PH → Option (PH)
  | 0 => fun _ _ => none
  | n + 1 => fun v4 P =>
    if (144 : Int32) ≤ v4 then
      Mo_layHangs_38 v2 v3 bigN (0 : Int32) P
    else
      if v4 = v1 then
        gdI v4 144 <|
        (some (sI P 100 v4.toNatClampNeg (vp_nar .boolean (1 : Int32)))).bind fun (P28 : PH) =>
        Mo_layHangs_3 v1 v2 v3 n (v4 + 1) P28
      else
        gdI v4 144 <|
        (some (sI P 100 v4.toNatClampNeg (vp_nar .boolean (0 : Int32)))).bind fun (P28 : PH) =>
        Mo_layHangs_3 v1 v2 v3 n (v4 + 1) P28
set_option maxRecDepth 100000 in
set_option maxHeartbeats 4000000 in
theorem Mo_layHangs_3_sem {G : GT} {l : Launch} (hG : GOK G l)  (v1 : Int32) (v2 : Int32) (v3 : Int32)    : ∀ (n : Nat) (v4 : Int32) (P : PH), Sem G l miX11_layHangs 0 0 (rn tVH) 3 [(0, .ref (gA G 1)), (1, .int v1), (2, .int v2), (3, .int v3), (4, .int v4)] [] P (Mo_layHangs_3 v1 v2 v3 n v4 P) := by
  intro n
  induction n with
  | zero => intro v4 P; exact s_none rfl
  | succ n ih =>
    intro v4 P
    rw [Mo_layHangs_3]
    refine s_iload (pc := 3) 4 dX11_layHangs_3 rfl ?_
    refine s_sipush (pc := 5) (v := 144) dX11_layHangs_5 rfl ?_
    refine s_icmp_ge (pc := 8) 35 dX11_layHangs_8 rfl ?_ ?_
    · refine s_iconst (pc := 35) (v := 0) dX11_layHangs_35 rfl ?_
      refine s_istore (pc := 36) [(4, .int ((0 : Int32))), (0, .ref (gA G 1)), (1, .int v1), (2, .int v2), (3, .int v3)] dX11_layHangs_36 (Nat.le_of_ble_eq_true rfl) rfl ?_
      refine s_sub [1, 3, 4, 0] rfl ?_
      exact Mo_layHangs_38_sem hG v2 v3 bigN (0 : Int32) P
    · refine s_aload_n (pc := 11) 0 dX11_layHangs_11 rfl rfl ?_
      refine s_getR (pc := 12) 100 dX11_layHangs_12 (fi_X11_51 hG) kd_1 rfl ?_
      refine s_iload (pc := 15) 4 dX11_layHangs_15 rfl ?_
      refine s_iload (pc := 17) 4 dX11_layHangs_17 rfl ?_
      refine s_iload_n (pc := 19) 1 dX11_layHangs_19 rfl rfl ?_
      refine s_icmp_ne (pc := 20) 27 dX11_layHangs_20 rfl ?_ ?_
      · refine s_iconst (pc := 23) (v := 1) dX11_layHangs_23 rfl ?_
        refine s_goto (pc := 24) 28 dX11_layHangs_24 rfl ?_
        refine s_zast (pc := 28) 144 dX11_layHangs_28 kd_100 ln_100 ?_
        refine s_letP (fun P28 => ?_)
        refine s_iinc (pc := 29) 4 1 [(4, .int (v4 + 1)), (0, .ref (gA G 1)), (1, .int v1), (2, .int v2), (3, .int v3)] dX11_layHangs_29 rfl rfl (Nat.le_of_ble_eq_true rfl) rfl ?_
        refine s_goto (pc := 32) 3 dX11_layHangs_32 rfl ?_
        refine s_sub [1, 2, 3, 4, 0] rfl ?_
        exact ih (v4 + 1) P28
      · refine s_iconst (pc := 27) (v := 0) dX11_layHangs_27 rfl ?_
        refine s_zast (pc := 28) 144 dX11_layHangs_28 kd_100 ln_100 ?_
        refine s_letP (fun P28 => ?_)
        refine s_iinc (pc := 29) 4 1 [(4, .int (v4 + 1)), (0, .ref (gA G 1)), (1, .int v1), (2, .int v2), (3, .int v3)] dX11_layHangs_29 rfl rfl (Nat.le_of_ble_eq_true rfl) rfl ?_
        refine s_goto (pc := 32) 3 dX11_layHangs_32 rfl ?_
        refine s_sub [1, 2, 3, 4, 0] rfl ?_
        exact ih (v4 + 1) P28
def Mo_layHangs  (v1 : Int32) (v2 : Int32) (v3 : Int32) (P : PH) : Option (PH) :=
  Mo_layHangs_3 v1 v2 v3 bigN (0 : Int32) P
set_option maxRecDepth 100000 in
set_option maxHeartbeats 4000000 in
theorem Mo_layHangs_ok {G : GT} {l : Launch} (hG : GOK G l)  (v1 : Int32) (v2 : Int32) (v3 : Int32) (P : PH) : OkN G l yX11_layHangs miX11_layHangs 0 0 tVH [.ref (gA G 1), .int v1, .int v2, .int v3] P (Mo_layHangs v1 v2 v3 P) := by
  refine okN_of hG _ [(0, .ref (gA G 1)), (1, .int v1), (2, .int v2), (3, .int v3)] rfl rfl rfl (Nat.le_of_ble_eq_true rfl) rfl ?_
  unfold Mo_layHangs
  refine s_iconst (pc := 0) (v := 0) dX11_layHangs_0 rfl ?_
  refine s_istore (pc := 1) [(4, .int ((0 : Int32))), (0, .ref (gA G 1)), (1, .int v1), (2, .int v2), (3, .int v3)] dX11_layHangs_1 (Nat.le_of_ble_eq_true rfl) rfl ?_
  refine s_sub [1, 2, 3, 4, 0] rfl ?_
  exact Mo_layHangs_3_sem hG v1 v2 v3 bigN (0 : Int32) P
def Mo_firstOf_17     : Nat → Int32 → PH → Option (Int32 × PH)
  | 0 => fun _ _ => none
  | n + 1 => fun v2 P =>
    gdI v2 60 <|
    if (P.1 99 v2.toNatClampNeg) = 0 then
      Mo_firstOf_17  n (v2 + 1) P
    else
      some (v2, P)
set_option maxRecDepth 100000 in
set_option maxHeartbeats 4000000 in
theorem Mo_firstOf_17_sem {G : GT} {l : Launch} (hG : GOK G l)      : ∀ (n : Nat) (v2 : Int32) (P : PH), Sem G l miX11_firstOf 0 0 (rn tIH) 17 [(0, .ref (gA G 1)), (2, .int v2)] [] P (Mo_firstOf_17  n v2 P) := by
  intro n
  induction n with
  | zero => intro v2 P; exact s_none rfl
  | succ n ih =>
    intro v2 P
    rw [Mo_firstOf_17]
    refine s_aload_n (pc := 17) 0 dX11_firstOf_17 rfl rfl ?_
    refine s_getR (pc := 18) 99 dX11_firstOf_18 (fi_X11_48 hG) kd_1 rfl ?_
    refine s_iload_n (pc := 21) 1 dX11_firstOf_21 rfl rfl ?_
    refine s_zald (pc := 22) 60 dX11_firstOf_22 kd_99 ln_99 ?_
    refine s_if_ne (pc := 23) 32 dX11_firstOf_23 rfl ?_ ?_
    · refine s_iinc (pc := 26) 1 1 [(2, .int (v2 + 1)), (0, .ref (gA G 1))] dX11_firstOf_26 rfl rfl (Nat.le_of_ble_eq_true rfl) rfl ?_
      refine s_goto (pc := 29) 17 dX11_firstOf_29 rfl ?_
      refine s_sub [1, 0] rfl ?_
      exact ih (v2 + 1) P
    · refine s_iload_n (pc := 32) 1 dX11_firstOf_32 rfl rfl ?_
      exact s_iret (pc := 33) dX11_firstOf_33 rfl rfl
def Mo_firstOf  (v1 : Int32) (P : PH) : Option (Int32 × PH) :=
  (Mo_from v1 P).bind fun (x3 : Int32) =>
  (Mo_inkOf v1 P).bind fun (x8 : Int32) =>
  (Mo_layHangs x3 x8 (1 : Int32) P).bind fun (x12 : PH) =>
  Mo_firstOf_17  bigN (0 : Int32) x12
set_option maxRecDepth 100000 in
set_option maxHeartbeats 4000000 in
theorem Mo_firstOf_ok {G : GT} {l : Launch} (hG : GOK G l)  (v1 : Int32) (P : PH) : OkN G l yX11_firstOf miX11_firstOf 0 0 tIH [.ref (gA G 1), .int v1] P (Mo_firstOf v1 P) := by
  refine okN_of hG _ [(0, .ref (gA G 1)), (1, .int v1)] rfl rfl rfl (Nat.le_of_ble_eq_true rfl) rfl ?_
  unfold Mo_firstOf
  refine s_aload_n (pc := 0) 0 dX11_firstOf_0 rfl rfl ?_
  refine s_aload_n (pc := 1) 0 dX11_firstOf_1 rfl rfl ?_
  refine s_iload_n (pc := 2) 1 dX11_firstOf_2 rfl rfl ?_
  refine s_callV (k := 0) (n := 0) (pc := 3) [.int v1] (fun x3 => .int x3 :: [.ref (gA G 1)]) (fun _ => P) dX11_firstOf_3 (cV_X11_261 hG) (Nat.le_of_ble_eq_true rfl) rfl kd_1 (Mo_from_ok hG v1 P) rfl (fun _ => rfl) (fun _ => rfl) (Nat.le_of_ble_eq_true rfl) rfl rfl (fun x3 => ?_)
  refine s_aload_n (pc := 6) 0 dX11_firstOf_6 rfl rfl ?_
  refine s_iload_n (pc := 7) 1 dX11_firstOf_7 rfl rfl ?_
  refine s_callV (k := 0) (n := 0) (pc := 8) [.int v1] (fun x8 => .int x8 :: [.int x3, .ref (gA G 1)]) (fun _ => P) dX11_firstOf_8 (cV_X11_258 hG) (Nat.le_of_ble_eq_true rfl) rfl kd_1 (Mo_inkOf_ok hG v1 P) rfl (fun _ => rfl) (fun _ => rfl) (Nat.le_of_ble_eq_true rfl) rfl rfl (fun x8 => ?_)
  refine s_iconst (pc := 11) (v := 1) dX11_firstOf_11 rfl ?_
  refine s_callV (k := 0) (n := 0) (pc := 12) [.int x3, .int x8, .int ((1 : Int32))] (fun _ => []) (fun x12 => x12) dX11_firstOf_12 (cV_X11_290 hG) (Nat.le_of_ble_eq_true rfl) rfl kd_1 (Mo_layHangs_ok hG x3 x8 (1 : Int32) P) rfl (fun _ => rfl) (fun _ => rfl) (Nat.le_of_ble_eq_true rfl) rfl rfl (fun x12 => ?_)
  refine s_iconst (pc := 15) (v := 0) dX11_firstOf_15 rfl ?_
  refine s_istore_n (pc := 16) [(2, .int ((0 : Int32))), (0, .ref (gA G 1)), (1, .int v1)] dX11_firstOf_16 rfl (Nat.le_of_ble_eq_true rfl) rfl ?_
  refine s_sub [1, 0] rfl ?_
  exact Mo_firstOf_17_sem hG  bigN (0 : Int32) x12
def Mo_parts_29   (v1 : Int32)  : Nat → Int32 → Int32 → PH → Option (Int32 × PH)
  | 0 => fun _ _ _ => none
  | n + 1 => fun v2 v3 P =>
    gdI (0 : Int32) 512 <|
    if (P.1 88 (0 : Int32).toNatClampNeg) ≤ v3 then
      some (v2, P)
    else
      (Mo_inkOf v3 P).bind fun (x42 : Int32) =>
      if x42 = v1 then
        (Mo_firstOf v3 P).bind fun (x51 : Int32 × PH) =>
        if x51.1 = v3 then
          (some (v2 + (1 : Int32))).bind fun (u2_64 : Int32) =>
          Mo_parts_29 v1 n u2_64 (v3 + 1) x51.2
        else
          (some (v2 + (0 : Int32))).bind fun (u2_64 : Int32) =>
          Mo_parts_29 v1 n u2_64 (v3 + 1) x51.2
      else
        (some (v2 + (0 : Int32))).bind fun (u2_64 : Int32) =>
        Mo_parts_29 v1 n u2_64 (v3 + 1) P
set_option maxRecDepth 100000 in
set_option maxHeartbeats 4000000 in
theorem Mo_parts_29_sem {G : GT} {l : Launch} (hG : GOK G l)  (v1 : Int32)    : ∀ (n : Nat) (v2 : Int32) (v3 : Int32) (P : PH), Sem G l miX11_parts 0 0 (rn tIH) 29 [(0, .ref (gA G 1)), (1, .int v1), (2, .int v2), (3, .int v3)] [] P (Mo_parts_29 v1 n v2 v3 P) := by
  intro n
  induction n with
  | zero => intro v2 v3 P; exact s_none rfl
  | succ n ih =>
    intro v2 v3 P
    rw [Mo_parts_29]
    refine s_iload_n (pc := 29) 3 dX11_parts_29 rfl rfl ?_
    refine s_aload_n (pc := 30) 0 dX11_parts_30 rfl rfl ?_
    refine s_getR (pc := 31) 88 dX11_parts_31 (fi_X11_9 hG) kd_1 rfl ?_
    refine s_iconst (pc := 34) (v := 0) dX11_parts_34 rfl ?_
    refine s_iald (pc := 35) 512 dX11_parts_35 kd_88 ln_88 ?_
    refine s_icmp_ge (pc := 36) 71 dX11_parts_36 rfl ?_ ?_
    · refine s_iload_n (pc := 71) 2 dX11_parts_71 rfl rfl ?_
      exact s_iret (pc := 72) dX11_parts_72 rfl rfl
    · refine s_iload_n (pc := 39) 2 dX11_parts_39 rfl rfl ?_
      refine s_aload_n (pc := 40) 0 dX11_parts_40 rfl rfl ?_
      refine s_iload_n (pc := 41) 3 dX11_parts_41 rfl rfl ?_
      refine s_callV (k := 0) (n := 0) (pc := 42) [.int v3] (fun x42 => .int x42 :: [.int v2]) (fun _ => P) dX11_parts_42 (cV_X11_258 hG) (Nat.le_of_ble_eq_true rfl) rfl kd_1 (Mo_inkOf_ok hG v3 P) rfl (fun _ => rfl) (fun _ => rfl) (Nat.le_of_ble_eq_true rfl) rfl rfl (fun x42 => ?_)
      refine s_iload_n (pc := 45) 1 dX11_parts_45 rfl rfl ?_
      refine s_icmp_ne (pc := 46) 62 dX11_parts_46 rfl ?_ ?_
      · refine s_aload_n (pc := 49) 0 dX11_parts_49 rfl rfl ?_
        refine s_iload_n (pc := 50) 3 dX11_parts_50 rfl rfl ?_
        refine s_callV (k := 0) (n := 0) (pc := 51) [.int v3] (fun x51 => .int (x51.1) :: [.int v2]) (fun x51 => x51.2) dX11_parts_51 (cV_X11_294 hG) (Nat.le_of_ble_eq_true rfl) rfl kd_1 (Mo_firstOf_ok hG v3 P) rfl (fun _ => rfl) (fun _ => rfl) (Nat.le_of_ble_eq_true rfl) rfl rfl (fun x51 => ?_)
        refine s_iload_n (pc := 54) 3 dX11_parts_54 rfl rfl ?_
        refine s_icmp_ne (pc := 55) 62 dX11_parts_55 rfl ?_ ?_
        · refine s_iconst (pc := 58) (v := 1) dX11_parts_58 rfl ?_
          refine s_goto (pc := 59) 63 dX11_parts_59 rfl ?_
          refine s_iadd (pc := 63) dX11_parts_63 ?_
          refine s_letI (fun u2_64 => ?_)
          refine s_istore_n (pc := 64) [(2, .int u2_64), (0, .ref (gA G 1)), (1, .int v1), (3, .int v3)] dX11_parts_64 rfl (Nat.le_of_ble_eq_true rfl) rfl ?_
          refine s_iinc (pc := 65) 3 1 [(3, .int (v3 + 1)), (2, .int u2_64), (0, .ref (gA G 1)), (1, .int v1)] dX11_parts_65 rfl rfl (Nat.le_of_ble_eq_true rfl) rfl ?_
          refine s_goto (pc := 68) 29 dX11_parts_68 rfl ?_
          refine s_sub [2, 3, 1, 0] rfl ?_
          exact ih u2_64 (v3 + 1) x51.2
        · refine s_iconst (pc := 62) (v := 0) dX11_parts_62 rfl ?_
          refine s_iadd (pc := 63) dX11_parts_63 ?_
          refine s_letI (fun u2_64 => ?_)
          refine s_istore_n (pc := 64) [(2, .int u2_64), (0, .ref (gA G 1)), (1, .int v1), (3, .int v3)] dX11_parts_64 rfl (Nat.le_of_ble_eq_true rfl) rfl ?_
          refine s_iinc (pc := 65) 3 1 [(3, .int (v3 + 1)), (2, .int u2_64), (0, .ref (gA G 1)), (1, .int v1)] dX11_parts_65 rfl rfl (Nat.le_of_ble_eq_true rfl) rfl ?_
          refine s_goto (pc := 68) 29 dX11_parts_68 rfl ?_
          refine s_sub [2, 3, 1, 0] rfl ?_
          exact ih u2_64 (v3 + 1) x51.2
      · refine s_iconst (pc := 62) (v := 0) dX11_parts_62 rfl ?_
        refine s_iadd (pc := 63) dX11_parts_63 ?_
        refine s_letI (fun u2_64 => ?_)
        refine s_istore_n (pc := 64) [(2, .int u2_64), (0, .ref (gA G 1)), (1, .int v1), (3, .int v3)] dX11_parts_64 rfl (Nat.le_of_ble_eq_true rfl) rfl ?_
        refine s_iinc (pc := 65) 3 1 [(3, .int (v3 + 1)), (2, .int u2_64), (0, .ref (gA G 1)), (1, .int v1)] dX11_parts_65 rfl rfl (Nat.le_of_ble_eq_true rfl) rfl ?_
        refine s_goto (pc := 68) 29 dX11_parts_68 rfl ?_
        refine s_sub [2, 3, 1, 0] rfl ?_
        exact ih u2_64 (v3 + 1) P
def Mo_parts_13   (v1 : Int32) (s0 : Int32) (P : PH) : Option (Int32 × PH) :=
  (some (sI P 1 5 s0)).bind fun (P13 : PH) =>
  if (P13.1 1 5) ≤ 0 then
    Mo_parts_29 v1 bigN (0 : Int32) (0 : Int32) P13
  else
    some ((0 : Int32), P13)
set_option maxRecDepth 100000 in
set_option maxHeartbeats 4000000 in
theorem Mo_parts_13_sem {G : GT} {l : Launch} (hG : GOK G l)  (v1 : Int32) (s0 : Int32) (P : PH)   : Sem G l miX11_parts 0 0 (rn tIH) 13 [(0, .ref (gA G 1)), (1, .int v1)] [.int s0, .ref (gA G 1)] P (Mo_parts_13 v1 s0 P) := by
  unfold Mo_parts_13
  refine s_putI (pc := 13) dX11_parts_13 (fp_X11_86 hG) kd_1 ?_
  refine s_letP (fun P13 => ?_)
  refine s_aload_n (pc := 16) 0 dX11_parts_16 rfl rfl ?_
  refine s_getI (pc := 17) dX11_parts_17 (fi_X11_86 hG) kd_1 ?_
  refine s_if_le (pc := 20) 25 dX11_parts_20 rfl ?_ ?_
  · refine s_iconst (pc := 25) (v := 0) dX11_parts_25 rfl ?_
    refine s_istore_n (pc := 26) [(2, .int ((0 : Int32))), (0, .ref (gA G 1)), (1, .int v1)] dX11_parts_26 rfl (Nat.le_of_ble_eq_true rfl) rfl ?_
    refine s_iconst (pc := 27) (v := 0) dX11_parts_27 rfl ?_
    refine s_istore_n (pc := 28) [(3, .int ((0 : Int32))), (2, .int ((0 : Int32))), (0, .ref (gA G 1)), (1, .int v1)] dX11_parts_28 rfl (Nat.le_of_ble_eq_true rfl) rfl ?_
    refine s_sub [2, 3, 1, 0] rfl ?_
    exact Mo_parts_29_sem hG v1 bigN (0 : Int32) (0 : Int32) P13
  · refine s_iconst (pc := 23) (v := 0) dX11_parts_23 rfl ?_
    exact s_iret (pc := 24) dX11_parts_24 rfl rfl
def Mo_parts  (v1 : Int32) (P : PH) : Option (Int32 × PH) :=
  (Mo_isInk v1 P).bind fun (x2 : Int32) =>
  if x2 = 0 then
    Mo_parts_13 v1 (1 : Int32) P
  else
    Mo_parts_13 v1 (0 : Int32) P
set_option maxRecDepth 100000 in
set_option maxHeartbeats 4000000 in
theorem Mo_parts_ok {G : GT} {l : Launch} (hG : GOK G l)  (v1 : Int32) (P : PH) : OkN G l yX11_parts miX11_parts 0 0 tIH [.ref (gA G 1), .int v1] P (Mo_parts v1 P) := by
  refine okN_of hG _ [(0, .ref (gA G 1)), (1, .int v1)] rfl rfl rfl (Nat.le_of_ble_eq_true rfl) rfl ?_
  unfold Mo_parts
  refine s_aload_n (pc := 0) 0 dX11_parts_0 rfl rfl ?_
  refine s_iload_n (pc := 1) 1 dX11_parts_1 rfl rfl ?_
  refine s_callS (k := 0) (n := 0) (pc := 2) [.int v1] (fun x2 => .int x2 :: [.ref (gA G 1)]) (fun _ => P) dX11_parts_2 (cS_X11_280 hG) (Nat.le_of_ble_eq_true rfl) rfl (Mo_isInk_ok hG v1 P) rfl (fun _ => rfl) (fun _ => rfl) (Nat.le_of_ble_eq_true rfl) rfl rfl (fun x2 => ?_)
  refine s_if_eq (pc := 5) 12 dX11_parts_5 rfl ?_ ?_
  · refine s_iconst (pc := 12) (v := 1) dX11_parts_12 rfl ?_
    exact Mo_parts_13_sem hG v1 (1 : Int32) P
  · refine s_iconst (pc := 8) (v := 0) dX11_parts_8 rfl ?_
    refine s_goto (pc := 9) 13 dX11_parts_9 rfl ?_
    exact Mo_parts_13_sem hG v1 (0 : Int32) P
def Mo_partOf  (v1 : Int32) (P : PH) : Option (Int32 × PH) :=
  (some (sI P 1 5 (0 : Int32))).bind fun (P2 : PH) =>
  (Mo_isLine v1 P2).bind fun (x7 : Int32) =>
  if x7 = 0 then
    (Mo_fails (1 : Int32) P2).bind fun (x23 : Int32 × PH) =>
    some (x23.1, x23.2)
  else
    (Mo_firstOf v1 P2).bind fun (x15 : Int32 × PH) =>
    some (x15.1, x15.2)
set_option maxRecDepth 100000 in
set_option maxHeartbeats 4000000 in
theorem Mo_partOf_ok {G : GT} {l : Launch} (hG : GOK G l)  (v1 : Int32) (P : PH) : OkN G l yX11_partOf miX11_partOf 0 0 tIH [.ref (gA G 1), .int v1] P (Mo_partOf v1 P) := by
  refine okN_of hG _ [(0, .ref (gA G 1)), (1, .int v1)] rfl rfl rfl (Nat.le_of_ble_eq_true rfl) rfl ?_
  unfold Mo_partOf
  refine s_aload_n (pc := 0) 0 dX11_partOf_0 rfl rfl ?_
  refine s_iconst (pc := 1) (v := 0) dX11_partOf_1 rfl ?_
  refine s_putI (pc := 2) dX11_partOf_2 (fp_X11_86 hG) kd_1 ?_
  refine s_letP (fun P2 => ?_)
  refine s_aload_n (pc := 5) 0 dX11_partOf_5 rfl rfl ?_
  refine s_iload_n (pc := 6) 1 dX11_partOf_6 rfl rfl ?_
  refine s_callV (k := 0) (n := 0) (pc := 7) [.int v1] (fun x7 => .int x7 :: []) (fun _ => P2) dX11_partOf_7 (cV_X11_267 hG) (Nat.le_of_ble_eq_true rfl) rfl kd_1 (Mo_isLine_ok hG v1 P2) rfl (fun _ => rfl) (fun _ => rfl) (Nat.le_of_ble_eq_true rfl) rfl rfl (fun x7 => ?_)
  refine s_if_eq (pc := 10) 21 dX11_partOf_10 rfl ?_ ?_
  · refine s_aload_n (pc := 21) 0 dX11_partOf_21 rfl rfl ?_
    refine s_iconst (pc := 22) (v := 1) dX11_partOf_22 rfl ?_
    refine s_callV (k := 0) (n := 0) (pc := 23) [.int ((1 : Int32))] (fun x23 => .int (x23.1) :: []) (fun x23 => x23.2) dX11_partOf_23 (cV_X11_245 hG) (Nat.le_of_ble_eq_true rfl) rfl kd_1 (Mo_fails_ok hG (1 : Int32) P2) rfl (fun _ => rfl) (fun _ => rfl) (Nat.le_of_ble_eq_true rfl) rfl rfl (fun x23 => ?_)
    exact s_iret (pc := 26) dX11_partOf_26 rfl rfl
  · refine s_aload_n (pc := 13) 0 dX11_partOf_13 rfl rfl ?_
    refine s_iload_n (pc := 14) 1 dX11_partOf_14 rfl rfl ?_
    refine s_callV (k := 0) (n := 0) (pc := 15) [.int v1] (fun x15 => .int (x15.1) :: []) (fun x15 => x15.2) dX11_partOf_15 (cV_X11_294 hG) (Nat.le_of_ble_eq_true rfl) rfl kd_1 (Mo_firstOf_ok hG v1 P2) rfl (fun _ => rfl) (fun _ => rfl) (Nat.le_of_ble_eq_true rfl) rfl rfl (fun x15 => ?_)
    refine s_goto (pc := 18) 26 dX11_partOf_18 rfl ?_
    exact s_iret (pc := 26) dX11_partOf_26 rfl rfl
def Mo_isSlant  (v1 : Int32) (P : PH) : Option (Int32) :=
  gdI (((8 : Int32) + ((4 : Int32) * v1)) + (1 : Int32)) 512 <|
  if ((P.1 88 (((8 : Int32) + ((4 : Int32) * v1)) + (1 : Int32)).toNatClampNeg) - (P.1 88 (((8 : Int32) + ((4 : Int32) * v1)) + (1 : Int32)).toNatClampNeg) / (2 : Int32) * (2 : Int32)) = (1 : Int32) then
    gdP ((1 : Int32) = 0 ∨ (1 : Int32) = 1) <|
    some (1 : Int32)
  else
    gdP ((0 : Int32) = 0 ∨ (0 : Int32) = 1) <|
    some (0 : Int32)
set_option maxRecDepth 100000 in
set_option maxHeartbeats 4000000 in
theorem Mo_isSlant_ok {G : GT} {l : Launch} (hG : GOK G l)  (v1 : Int32) (P : PH) : OkN G l yX11_isSlant miX11_isSlant 0 0 (tI P) [.ref (gA G 1), .int v1] P (Mo_isSlant v1 P) := by
  refine okN_of hG _ [(0, .ref (gA G 1)), (1, .int v1)] rfl rfl rfl (Nat.le_of_ble_eq_true rfl) rfl ?_
  unfold Mo_isSlant
  refine s_aload_n (pc := 0) 0 dX11_isSlant_0 rfl rfl ?_
  refine s_getR (pc := 1) 88 dX11_isSlant_1 (fi_X11_9 hG) kd_1 rfl ?_
  refine s_bipush (pc := 4) (v := 8) dX11_isSlant_4 rfl ?_
  refine s_iconst (pc := 6) (v := 4) dX11_isSlant_6 rfl ?_
  refine s_iload_n (pc := 7) 1 dX11_isSlant_7 rfl rfl ?_
  refine s_imul (pc := 8) dX11_isSlant_8 ?_
  refine s_iadd (pc := 9) dX11_isSlant_9 ?_
  refine s_iconst (pc := 10) (v := 1) dX11_isSlant_10 rfl ?_
  refine s_iadd (pc := 11) dX11_isSlant_11 ?_
  refine s_iald (pc := 12) 512 dX11_isSlant_12 kd_88 ln_88 ?_
  refine s_iconst (pc := 13) (v := 2) dX11_isSlant_13 rfl ?_
  refine s_irem (pc := 14) dX11_isSlant_14 (by decide) ?_
  refine s_iconst (pc := 15) (v := 1) dX11_isSlant_15 rfl ?_
  refine s_icmp_ne (pc := 16) 23 dX11_isSlant_16 rfl ?_ ?_
  · refine s_iconst (pc := 19) (v := 1) dX11_isSlant_19 rfl ?_
    refine s_goto (pc := 20) 24 dX11_isSlant_20 rfl ?_
    exact s_zret (pc := 24) dX11_isSlant_24 rfl rfl
  · refine s_iconst (pc := 23) (v := 0) dX11_isSlant_23 rfl ?_
    exact s_zret (pc := 24) dX11_isSlant_24 rfl rfl
def Mo_length_34   (v1 : Int32)  : Nat → Int32 → Int32 → PH → Option (Int32 × PH)
  | 0 => fun _ _ _ => none
  | n + 1 => fun v2 v3 P =>
    gdI (0 : Int32) 512 <|
    if (P.1 88 (0 : Int32).toNatClampNeg) ≤ v3 then
      some (v2, P)
    else
      (Mo_isOf v3 v1 P).bind fun (x48 : Int32) =>
      if x48 = 0 then
        (some (v2 + (0 : Int32))).bind fun (u2_76 : Int32) =>
        Mo_length_34 v1 n u2_76 (v3 + 1) P
      else
        (Mo_isSlant v3 P).bind fun (x57 : Int32) =>
        if x57 = 0 then
          (some (v2 + ((2 : Int32) * (10 : Int32)))).bind fun (u2_76 : Int32) =>
          Mo_length_34 v1 n u2_76 (v3 + 1) P
        else
          (some (v2 + ((2 : Int32) * (14 : Int32)))).bind fun (u2_76 : Int32) =>
          Mo_length_34 v1 n u2_76 (v3 + 1) P
set_option maxRecDepth 100000 in
set_option maxHeartbeats 4000000 in
theorem Mo_length_34_sem {G : GT} {l : Launch} (hG : GOK G l)  (v1 : Int32)    : ∀ (n : Nat) (v2 : Int32) (v3 : Int32) (P : PH), Sem G l miX11_length 0 0 (rn tIH) 34 [(0, .ref (gA G 1)), (1, .int v1), (2, .int v2), (3, .int v3)] [] P (Mo_length_34 v1 n v2 v3 P) := by
  intro n
  induction n with
  | zero => intro v2 v3 P; exact s_none rfl
  | succ n ih =>
    intro v2 v3 P
    rw [Mo_length_34]
    refine s_iload_n (pc := 34) 3 dX11_length_34 rfl rfl ?_
    refine s_aload_n (pc := 35) 0 dX11_length_35 rfl rfl ?_
    refine s_getR (pc := 36) 88 dX11_length_36 (fi_X11_9 hG) kd_1 rfl ?_
    refine s_iconst (pc := 39) (v := 0) dX11_length_39 rfl ?_
    refine s_iald (pc := 40) 512 dX11_length_40 kd_88 ln_88 ?_
    refine s_icmp_ge (pc := 41) 83 dX11_length_41 rfl ?_ ?_
    · refine s_iload_n (pc := 83) 2 dX11_length_83 rfl rfl ?_
      exact s_iret (pc := 84) dX11_length_84 rfl rfl
    · refine s_iload_n (pc := 44) 2 dX11_length_44 rfl rfl ?_
      refine s_aload_n (pc := 45) 0 dX11_length_45 rfl rfl ?_
      refine s_iload_n (pc := 46) 3 dX11_length_46 rfl rfl ?_
      refine s_iload_n (pc := 47) 1 dX11_length_47 rfl rfl ?_
      refine s_callV (k := 0) (n := 0) (pc := 48) [.int v3, .int v1] (fun x48 => .int x48 :: [.int v2]) (fun _ => P) dX11_length_48 (cV_X11_283 hG) (Nat.le_of_ble_eq_true rfl) rfl kd_1 (Mo_isOf_ok hG v3 v1 P) rfl (fun _ => rfl) (fun _ => rfl) (Nat.le_of_ble_eq_true rfl) rfl rfl (fun x48 => ?_)
      refine s_if_eq (pc := 51) 74 dX11_length_51 rfl ?_ ?_
      · refine s_iconst (pc := 74) (v := 0) dX11_length_74 rfl ?_
        refine s_iadd (pc := 75) dX11_length_75 ?_
        refine s_letI (fun u2_76 => ?_)
        refine s_istore_n (pc := 76) [(2, .int u2_76), (0, .ref (gA G 1)), (1, .int v1), (3, .int v3)] dX11_length_76 rfl (Nat.le_of_ble_eq_true rfl) rfl ?_
        refine s_iinc (pc := 77) 3 1 [(3, .int (v3 + 1)), (2, .int u2_76), (0, .ref (gA G 1)), (1, .int v1)] dX11_length_77 rfl rfl (Nat.le_of_ble_eq_true rfl) rfl ?_
        refine s_goto (pc := 80) 34 dX11_length_80 rfl ?_
        refine s_sub [2, 3, 1, 0] rfl ?_
        exact ih u2_76 (v3 + 1) P
      · refine s_iconst (pc := 54) (v := 2) dX11_length_54 rfl ?_
        refine s_aload_n (pc := 55) 0 dX11_length_55 rfl rfl ?_
        refine s_iload_n (pc := 56) 3 dX11_length_56 rfl rfl ?_
        refine s_callV (k := 0) (n := 0) (pc := 57) [.int v3] (fun x57 => .int x57 :: [.int ((2 : Int32)), .int v2]) (fun _ => P) dX11_length_57 (cV_X11_297 hG) (Nat.le_of_ble_eq_true rfl) rfl kd_1 (Mo_isSlant_ok hG v3 P) rfl (fun _ => rfl) (fun _ => rfl) (Nat.le_of_ble_eq_true rfl) rfl rfl (fun x57 => ?_)
        refine s_if_eq (pc := 60) 68 dX11_length_60 rfl ?_ ?_
        · refine s_bipush (pc := 68) (v := 10) dX11_length_68 rfl ?_
          refine s_imul (pc := 70) dX11_length_70 ?_
          refine s_goto (pc := 71) 75 dX11_length_71 rfl ?_
          refine s_iadd (pc := 75) dX11_length_75 ?_
          refine s_letI (fun u2_76 => ?_)
          refine s_istore_n (pc := 76) [(2, .int u2_76), (0, .ref (gA G 1)), (1, .int v1), (3, .int v3)] dX11_length_76 rfl (Nat.le_of_ble_eq_true rfl) rfl ?_
          refine s_iinc (pc := 77) 3 1 [(3, .int (v3 + 1)), (2, .int u2_76), (0, .ref (gA G 1)), (1, .int v1)] dX11_length_77 rfl rfl (Nat.le_of_ble_eq_true rfl) rfl ?_
          refine s_goto (pc := 80) 34 dX11_length_80 rfl ?_
          refine s_sub [2, 3, 1, 0] rfl ?_
          exact ih u2_76 (v3 + 1) P
        · refine s_bipush (pc := 63) (v := 14) dX11_length_63 rfl ?_
          refine s_goto (pc := 65) 70 dX11_length_65 rfl ?_
          refine s_imul (pc := 70) dX11_length_70 ?_
          refine s_goto (pc := 71) 75 dX11_length_71 rfl ?_
          refine s_iadd (pc := 75) dX11_length_75 ?_
          refine s_letI (fun u2_76 => ?_)
          refine s_istore_n (pc := 76) [(2, .int u2_76), (0, .ref (gA G 1)), (1, .int v1), (3, .int v3)] dX11_length_76 rfl (Nat.le_of_ble_eq_true rfl) rfl ?_
          refine s_iinc (pc := 77) 3 1 [(3, .int (v3 + 1)), (2, .int u2_76), (0, .ref (gA G 1)), (1, .int v1)] dX11_length_77 rfl rfl (Nat.le_of_ble_eq_true rfl) rfl ?_
          refine s_goto (pc := 80) 34 dX11_length_80 rfl ?_
          refine s_sub [2, 3, 1, 0] rfl ?_
          exact ih u2_76 (v3 + 1) P
def Mo_length_18   (v1 : Int32) (s0 : Int32) (P : PH) : Option (Int32 × PH) :=
  (some (sI P 1 5 s0)).bind fun (P18 : PH) =>
  if (P18.1 1 5) ≤ 0 then
    Mo_length_34 v1 bigN (0 : Int32) (0 : Int32) P18
  else
    some ((0 : Int32), P18)
set_option maxRecDepth 100000 in
set_option maxHeartbeats 4000000 in
theorem Mo_length_18_sem {G : GT} {l : Launch} (hG : GOK G l)  (v1 : Int32) (s0 : Int32) (P : PH)   : Sem G l miX11_length 0 0 (rn tIH) 18 [(0, .ref (gA G 1)), (1, .int v1)] [.int s0, .ref (gA G 1)] P (Mo_length_18 v1 s0 P) := by
  unfold Mo_length_18
  refine s_putI (pc := 18) dX11_length_18 (fp_X11_86 hG) kd_1 ?_
  refine s_letP (fun P18 => ?_)
  refine s_aload_n (pc := 21) 0 dX11_length_21 rfl rfl ?_
  refine s_getI (pc := 22) dX11_length_22 (fi_X11_86 hG) kd_1 ?_
  refine s_if_le (pc := 25) 30 dX11_length_25 rfl ?_ ?_
  · refine s_iconst (pc := 30) (v := 0) dX11_length_30 rfl ?_
    refine s_istore_n (pc := 31) [(2, .int ((0 : Int32))), (0, .ref (gA G 1)), (1, .int v1)] dX11_length_31 rfl (Nat.le_of_ble_eq_true rfl) rfl ?_
    refine s_iconst (pc := 32) (v := 0) dX11_length_32 rfl ?_
    refine s_istore_n (pc := 33) [(3, .int ((0 : Int32))), (2, .int ((0 : Int32))), (0, .ref (gA G 1)), (1, .int v1)] dX11_length_33 rfl (Nat.le_of_ble_eq_true rfl) rfl ?_
    refine s_sub [2, 3, 1, 0] rfl ?_
    exact Mo_length_34_sem hG v1 bigN (0 : Int32) (0 : Int32) P18
  · refine s_iconst (pc := 28) (v := 0) dX11_length_28 rfl ?_
    exact s_iret (pc := 29) dX11_length_29 rfl rfl
def Mo_length  (v1 : Int32) (P : PH) : Option (Int32 × PH) :=
  if v1 = (-1 : Int32) then
    Mo_length_18 v1 (0 : Int32) P
  else
    (Mo_isInk v1 P).bind fun (x7 : Int32) =>
    if x7 = 0 then
      Mo_length_18 v1 (1 : Int32) P
    else
      Mo_length_18 v1 (0 : Int32) P
set_option maxRecDepth 100000 in
set_option maxHeartbeats 4000000 in
theorem Mo_length_ok {G : GT} {l : Launch} (hG : GOK G l)  (v1 : Int32) (P : PH) : OkN G l yX11_length miX11_length 0 0 tIH [.ref (gA G 1), .int v1] P (Mo_length v1 P) := by
  refine okN_of hG _ [(0, .ref (gA G 1)), (1, .int v1)] rfl rfl rfl (Nat.le_of_ble_eq_true rfl) rfl ?_
  unfold Mo_length
  refine s_aload_n (pc := 0) 0 dX11_length_0 rfl rfl ?_
  refine s_iload_n (pc := 1) 1 dX11_length_1 rfl rfl ?_
  refine s_iconst (pc := 2) (v := -1) dX11_length_2 rfl ?_
  refine s_icmp_eq (pc := 3) 13 dX11_length_3 rfl ?_ ?_
  · refine s_iconst (pc := 13) (v := 0) dX11_length_13 rfl ?_
    refine s_goto (pc := 14) 18 dX11_length_14 rfl ?_
    exact Mo_length_18_sem hG v1 (0 : Int32) P
  · refine s_iload_n (pc := 6) 1 dX11_length_6 rfl rfl ?_
    refine s_callS (k := 0) (n := 0) (pc := 7) [.int v1] (fun x7 => .int x7 :: [.ref (gA G 1)]) (fun _ => P) dX11_length_7 (cS_X11_280 hG) (Nat.le_of_ble_eq_true rfl) rfl (Mo_isInk_ok hG v1 P) rfl (fun _ => rfl) (fun _ => rfl) (Nat.le_of_ble_eq_true rfl) rfl rfl (fun x7 => ?_)
    refine s_if_eq (pc := 10) 17 dX11_length_10 rfl ?_ ?_
    · refine s_iconst (pc := 17) (v := 1) dX11_length_17 rfl ?_
      exact Mo_length_18_sem hG v1 (1 : Int32) P
    · refine s_iconst (pc := 13) (v := 0) dX11_length_13 rfl ?_
      refine s_goto (pc := 14) 18 dX11_length_14 rfl ?_
      exact Mo_length_18_sem hG v1 (0 : Int32) P
def Mo_square  (v1 : Int32) (P : PH) : Option (Int32) :=
  (Mo_from v1 P).bind fun (x2 : Int32) =>
  (Mo_to v1 P).bind fun (x10 : Int32) =>
  (some (jMin (x2 - x2 / (12 : Int32) * (12 : Int32)) (x10 - x10 / (12 : Int32) * (12 : Int32)))).bind fun (u2_19 : Int32) =>
  (Mo_from v1 P).bind fun (x22 : Int32) =>
  (Mo_to v1 P).bind fun (x30 : Int32) =>
  (some (jMin (x22 / (12 : Int32)) (x30 / (12 : Int32)))).bind fun (u3_39 : Int32) =>
  some (((12 : Int32) * u3_39) + u2_19)
set_option maxRecDepth 100000 in
set_option maxHeartbeats 4000000 in
theorem Mo_square_ok {G : GT} {l : Launch} (hG : GOK G l)  (v1 : Int32) (P : PH) : OkN G l yX11_square miX11_square 0 0 (tI P) [.ref (gA G 1), .int v1] P (Mo_square v1 P) := by
  refine okN_of hG _ [(0, .ref (gA G 1)), (1, .int v1)] rfl rfl rfl (Nat.le_of_ble_eq_true rfl) rfl ?_
  unfold Mo_square
  refine s_aload_n (pc := 0) 0 dX11_square_0 rfl rfl ?_
  refine s_iload_n (pc := 1) 1 dX11_square_1 rfl rfl ?_
  refine s_callV (k := 0) (n := 0) (pc := 2) [.int v1] (fun x2 => .int x2 :: []) (fun _ => P) dX11_square_2 (cV_X11_261 hG) (Nat.le_of_ble_eq_true rfl) rfl kd_1 (Mo_from_ok hG v1 P) rfl (fun _ => rfl) (fun _ => rfl) (Nat.le_of_ble_eq_true rfl) rfl rfl (fun x2 => ?_)
  refine s_bipush (pc := 5) (v := 12) dX11_square_5 rfl ?_
  refine s_irem (pc := 7) dX11_square_7 (by decide) ?_
  refine s_aload_n (pc := 8) 0 dX11_square_8 rfl rfl ?_
  refine s_iload_n (pc := 9) 1 dX11_square_9 rfl rfl ?_
  refine s_callV (k := 0) (n := 0) (pc := 10) [.int v1] (fun x10 => .int x10 :: [.int (x2 - x2 / (12 : Int32) * (12 : Int32))]) (fun _ => P) dX11_square_10 (cV_X11_264 hG) (Nat.le_of_ble_eq_true rfl) rfl kd_1 (Mo_to_ok hG v1 P) rfl (fun _ => rfl) (fun _ => rfl) (Nat.le_of_ble_eq_true rfl) rfl rfl (fun x10 => ?_)
  refine s_bipush (pc := 13) (v := 12) dX11_square_13 rfl ?_
  refine s_irem (pc := 15) dX11_square_15 (by decide) ?_
  refine s_mmin (pc := 16) dX11_square_16 (mk_X11_300 hG) (Nat.le_of_ble_eq_true rfl) (Nat.le_of_ble_eq_true rfl) ?_
  refine s_letI (fun u2_19 => ?_)
  refine s_istore_n (pc := 19) [(2, .int u2_19), (0, .ref (gA G 1)), (1, .int v1)] dX11_square_19 rfl (Nat.le_of_ble_eq_true rfl) rfl ?_
  refine s_aload_n (pc := 20) 1 dX11_square_20 rfl rfl ?_
  refine s_iload_n (pc := 21) 2 dX11_square_21 rfl rfl ?_
  refine s_callV (k := 0) (n := 0) (pc := 22) [.int v1] (fun x22 => .int x22 :: []) (fun _ => P) dX11_square_22 (cV_X11_261 hG) (Nat.le_of_ble_eq_true rfl) rfl kd_1 (Mo_from_ok hG v1 P) rfl (fun _ => rfl) (fun _ => rfl) (Nat.le_of_ble_eq_true rfl) rfl rfl (fun x22 => ?_)
  refine s_bipush (pc := 25) (v := 12) dX11_square_25 rfl ?_
  refine s_idiv (pc := 27) dX11_square_27 (by decide) ?_
  refine s_aload_n (pc := 28) 1 dX11_square_28 rfl rfl ?_
  refine s_iload_n (pc := 29) 2 dX11_square_29 rfl rfl ?_
  refine s_callV (k := 0) (n := 0) (pc := 30) [.int v1] (fun x30 => .int x30 :: [.int (x22 / (12 : Int32))]) (fun _ => P) dX11_square_30 (cV_X11_264 hG) (Nat.le_of_ble_eq_true rfl) rfl kd_1 (Mo_to_ok hG v1 P) rfl (fun _ => rfl) (fun _ => rfl) (Nat.le_of_ble_eq_true rfl) rfl rfl (fun x30 => ?_)
  refine s_bipush (pc := 33) (v := 12) dX11_square_33 rfl ?_
  refine s_idiv (pc := 35) dX11_square_35 (by decide) ?_
  refine s_mmin (pc := 36) dX11_square_36 (mk_X11_300 hG) (Nat.le_of_ble_eq_true rfl) (Nat.le_of_ble_eq_true rfl) ?_
  refine s_letI (fun u3_39 => ?_)
  refine s_istore_n (pc := 39) [(3, .int u3_39), (2, .int u2_19), (0, .ref (gA G 1)), (1, .int v1)] dX11_square_39 rfl (Nat.le_of_ble_eq_true rfl) rfl ?_
  refine s_bipush (pc := 40) (v := 12) dX11_square_40 rfl ?_
  refine s_iload_n (pc := 42) 0 dX11_square_42 rfl rfl ?_
  refine s_imul (pc := 43) dX11_square_43 ?_
  refine s_iload_n (pc := 44) 1 dX11_square_44 rfl rfl ?_
  refine s_iadd (pc := 45) dX11_square_45 ?_
  exact s_iret (pc := 46) dX11_square_46 rfl rfl
def Mo_crossings_22  (r9 : Int32 → Int32 → PH → Option (Int32 × PH)) (v1 : Int32) (v3 : Int32)  : Nat → Int32 → Int32 → PH → Option (Int32 × PH)
  | 0 => fun _ _ _ => none
  | n + 1 => fun v2 v4 P =>
    if v3 ≤ v4 then
      r9 v2 (v3 + 1) P
    else
      (Mo_isSlant v3 P).bind fun (x31 : Int32) =>
      if x31 = 0 then
        (some (v2 + (0 : Int32))).bind fun (u2_84 : Int32) =>
        Mo_crossings_22 r9 v1 v3 n u2_84 (v4 + 1) P
      else
        (Mo_isSlant v4 P).bind fun (x40 : Int32) =>
        if x40 = 0 then
          (some (v2 + (0 : Int32))).bind fun (u2_84 : Int32) =>
          Mo_crossings_22 r9 v1 v3 n u2_84 (v4 + 1) P
        else
          (Mo_square v3 P).bind fun (x48 : Int32) =>
          (Mo_square v4 P).bind fun (x54 : Int32) =>
          if x48 = x54 then
            if v1 = 0 then
              (some (v2 + (1 : Int32))).bind fun (u2_84 : Int32) =>
              Mo_crossings_22 r9 v1 v3 n u2_84 (v4 + 1) P
            else
              (Mo_inkOf v3 P).bind fun (x66 : Int32) =>
              (Mo_inkOf v4 P).bind fun (x72 : Int32) =>
              if x66 = x72 then
                (some (v2 + (0 : Int32))).bind fun (u2_84 : Int32) =>
                Mo_crossings_22 r9 v1 v3 n u2_84 (v4 + 1) P
              else
                (some (v2 + (1 : Int32))).bind fun (u2_84 : Int32) =>
                Mo_crossings_22 r9 v1 v3 n u2_84 (v4 + 1) P
          else
            (some (v2 + (0 : Int32))).bind fun (u2_84 : Int32) =>
            Mo_crossings_22 r9 v1 v3 n u2_84 (v4 + 1) P
set_option maxRecDepth 100000 in
set_option maxHeartbeats 4000000 in
theorem Mo_crossings_22_sem {G : GT} {l : Launch} (hG : GOK G l)  (v1 : Int32) (v3 : Int32)   (r9 : Int32 → Int32 → PH → Option (Int32 × PH)) (hr9 : ∀ (v2 : Int32) (v3 : Int32) (P : PH), Sem G l miX11_crossings 0 0 (rn tIH) 9 [(0, .ref (gA G 1)), (1, .int v1), (2, .int v2), (3, .int v3)] [] P (r9 v2 v3 P)) : ∀ (n : Nat) (v2 : Int32) (v4 : Int32) (P : PH), Sem G l miX11_crossings 0 0 (rn tIH) 22 [(0, .ref (gA G 1)), (1, .int v1), (2, .int v2), (3, .int v3), (4, .int v4)] [] P (Mo_crossings_22 r9 v1 v3 n v2 v4 P) := by
  intro n
  induction n with
  | zero => intro v2 v4 P; exact s_none rfl
  | succ n ih =>
    intro v2 v4 P
    rw [Mo_crossings_22]
    refine s_iload (pc := 22) 4 dX11_crossings_22 rfl ?_
    refine s_iload_n (pc := 24) 3 dX11_crossings_24 rfl rfl ?_
    refine s_icmp_ge (pc := 25) 91 dX11_crossings_25 rfl ?_ ?_
    · refine s_iinc (pc := 91) 3 1 [(3, .int (v3 + 1)), (0, .ref (gA G 1)), (1, .int v1), (2, .int v2), (4, .int v4)] dX11_crossings_91 rfl rfl (Nat.le_of_ble_eq_true rfl) rfl ?_
      refine s_goto (pc := 94) 9 dX11_crossings_94 rfl ?_
      refine s_sub [1, 2, 3, 0] rfl ?_
      exact hr9 v2 (v3 + 1) P
    · refine s_iload_n (pc := 28) 2 dX11_crossings_28 rfl rfl ?_
      refine s_aload_n (pc := 29) 0 dX11_crossings_29 rfl rfl ?_
      refine s_iload_n (pc := 30) 3 dX11_crossings_30 rfl rfl ?_
      refine s_callV (k := 0) (n := 0) (pc := 31) [.int v3] (fun x31 => .int x31 :: [.int v2]) (fun _ => P) dX11_crossings_31 (cV_X11_297 hG) (Nat.le_of_ble_eq_true rfl) rfl kd_1 (Mo_isSlant_ok hG v3 P) rfl (fun _ => rfl) (fun _ => rfl) (Nat.le_of_ble_eq_true rfl) rfl rfl (fun x31 => ?_)
      refine s_if_eq (pc := 34) 82 dX11_crossings_34 rfl ?_ ?_
      · refine s_iconst (pc := 82) (v := 0) dX11_crossings_82 rfl ?_
        refine s_iadd (pc := 83) dX11_crossings_83 ?_
        refine s_letI (fun u2_84 => ?_)
        refine s_istore_n (pc := 84) [(2, .int u2_84), (0, .ref (gA G 1)), (1, .int v1), (3, .int v3), (4, .int v4)] dX11_crossings_84 rfl (Nat.le_of_ble_eq_true rfl) rfl ?_
        refine s_iinc (pc := 85) 4 1 [(4, .int (v4 + 1)), (2, .int u2_84), (0, .ref (gA G 1)), (1, .int v1), (3, .int v3)] dX11_crossings_85 rfl rfl (Nat.le_of_ble_eq_true rfl) rfl ?_
        refine s_goto (pc := 88) 22 dX11_crossings_88 rfl ?_
        refine s_sub [2, 3, 1, 4, 0] rfl ?_
        exact ih u2_84 (v4 + 1) P
      · refine s_aload_n (pc := 37) 0 dX11_crossings_37 rfl rfl ?_
        refine s_iload (pc := 38) 4 dX11_crossings_38 rfl ?_
        refine s_callV (k := 0) (n := 0) (pc := 40) [.int v4] (fun x40 => .int x40 :: [.int v2]) (fun _ => P) dX11_crossings_40 (cV_X11_297 hG) (Nat.le_of_ble_eq_true rfl) rfl kd_1 (Mo_isSlant_ok hG v4 P) rfl (fun _ => rfl) (fun _ => rfl) (Nat.le_of_ble_eq_true rfl) rfl rfl (fun x40 => ?_)
        refine s_if_eq (pc := 43) 82 dX11_crossings_43 rfl ?_ ?_
        · refine s_iconst (pc := 82) (v := 0) dX11_crossings_82 rfl ?_
          refine s_iadd (pc := 83) dX11_crossings_83 ?_
          refine s_letI (fun u2_84 => ?_)
          refine s_istore_n (pc := 84) [(2, .int u2_84), (0, .ref (gA G 1)), (1, .int v1), (3, .int v3), (4, .int v4)] dX11_crossings_84 rfl (Nat.le_of_ble_eq_true rfl) rfl ?_
          refine s_iinc (pc := 85) 4 1 [(4, .int (v4 + 1)), (2, .int u2_84), (0, .ref (gA G 1)), (1, .int v1), (3, .int v3)] dX11_crossings_85 rfl rfl (Nat.le_of_ble_eq_true rfl) rfl ?_
          refine s_goto (pc := 88) 22 dX11_crossings_88 rfl ?_
          refine s_sub [2, 3, 1, 4, 0] rfl ?_
          exact ih u2_84 (v4 + 1) P
        · refine s_aload_n (pc := 46) 0 dX11_crossings_46 rfl rfl ?_
          refine s_iload_n (pc := 47) 3 dX11_crossings_47 rfl rfl ?_
          refine s_callV (k := 0) (n := 0) (pc := 48) [.int v3] (fun x48 => .int x48 :: [.int v2]) (fun _ => P) dX11_crossings_48 (cV_X11_305 hG) (Nat.le_of_ble_eq_true rfl) rfl kd_1 (Mo_square_ok hG v3 P) rfl (fun _ => rfl) (fun _ => rfl) (Nat.le_of_ble_eq_true rfl) rfl rfl (fun x48 => ?_)
          refine s_aload_n (pc := 51) 0 dX11_crossings_51 rfl rfl ?_
          refine s_iload (pc := 52) 4 dX11_crossings_52 rfl ?_
          refine s_callV (k := 0) (n := 0) (pc := 54) [.int v4] (fun x54 => .int x54 :: [.int x48, .int v2]) (fun _ => P) dX11_crossings_54 (cV_X11_305 hG) (Nat.le_of_ble_eq_true rfl) rfl kd_1 (Mo_square_ok hG v4 P) rfl (fun _ => rfl) (fun _ => rfl) (Nat.le_of_ble_eq_true rfl) rfl rfl (fun x54 => ?_)
          refine s_icmp_ne (pc := 57) 82 dX11_crossings_57 rfl ?_ ?_
          · refine s_iload_n (pc := 60) 1 dX11_crossings_60 rfl rfl ?_
            refine s_if_eq (pc := 61) 78 dX11_crossings_61 rfl ?_ ?_
            · refine s_iconst (pc := 78) (v := 1) dX11_crossings_78 rfl ?_
              refine s_goto (pc := 79) 83 dX11_crossings_79 rfl ?_
              refine s_iadd (pc := 83) dX11_crossings_83 ?_
              refine s_letI (fun u2_84 => ?_)
              refine s_istore_n (pc := 84) [(2, .int u2_84), (0, .ref (gA G 1)), (1, .int v1), (3, .int v3), (4, .int v4)] dX11_crossings_84 rfl (Nat.le_of_ble_eq_true rfl) rfl ?_
              refine s_iinc (pc := 85) 4 1 [(4, .int (v4 + 1)), (2, .int u2_84), (0, .ref (gA G 1)), (1, .int v1), (3, .int v3)] dX11_crossings_85 rfl rfl (Nat.le_of_ble_eq_true rfl) rfl ?_
              refine s_goto (pc := 88) 22 dX11_crossings_88 rfl ?_
              refine s_sub [2, 3, 1, 4, 0] rfl ?_
              exact ih u2_84 (v4 + 1) P
            · refine s_aload_n (pc := 64) 0 dX11_crossings_64 rfl rfl ?_
              refine s_iload_n (pc := 65) 3 dX11_crossings_65 rfl rfl ?_
              refine s_callV (k := 0) (n := 0) (pc := 66) [.int v3] (fun x66 => .int x66 :: [.int v2]) (fun _ => P) dX11_crossings_66 (cV_X11_258 hG) (Nat.le_of_ble_eq_true rfl) rfl kd_1 (Mo_inkOf_ok hG v3 P) rfl (fun _ => rfl) (fun _ => rfl) (Nat.le_of_ble_eq_true rfl) rfl rfl (fun x66 => ?_)
              refine s_aload_n (pc := 69) 0 dX11_crossings_69 rfl rfl ?_
              refine s_iload (pc := 70) 4 dX11_crossings_70 rfl ?_
              refine s_callV (k := 0) (n := 0) (pc := 72) [.int v4] (fun x72 => .int x72 :: [.int x66, .int v2]) (fun _ => P) dX11_crossings_72 (cV_X11_258 hG) (Nat.le_of_ble_eq_true rfl) rfl kd_1 (Mo_inkOf_ok hG v4 P) rfl (fun _ => rfl) (fun _ => rfl) (Nat.le_of_ble_eq_true rfl) rfl rfl (fun x72 => ?_)
              refine s_icmp_eq (pc := 75) 82 dX11_crossings_75 rfl ?_ ?_
              · refine s_iconst (pc := 82) (v := 0) dX11_crossings_82 rfl ?_
                refine s_iadd (pc := 83) dX11_crossings_83 ?_
                refine s_letI (fun u2_84 => ?_)
                refine s_istore_n (pc := 84) [(2, .int u2_84), (0, .ref (gA G 1)), (1, .int v1), (3, .int v3), (4, .int v4)] dX11_crossings_84 rfl (Nat.le_of_ble_eq_true rfl) rfl ?_
                refine s_iinc (pc := 85) 4 1 [(4, .int (v4 + 1)), (2, .int u2_84), (0, .ref (gA G 1)), (1, .int v1), (3, .int v3)] dX11_crossings_85 rfl rfl (Nat.le_of_ble_eq_true rfl) rfl ?_
                refine s_goto (pc := 88) 22 dX11_crossings_88 rfl ?_
                refine s_sub [2, 3, 1, 4, 0] rfl ?_
                exact ih u2_84 (v4 + 1) P
              · refine s_iconst (pc := 78) (v := 1) dX11_crossings_78 rfl ?_
                refine s_goto (pc := 79) 83 dX11_crossings_79 rfl ?_
                refine s_iadd (pc := 83) dX11_crossings_83 ?_
                refine s_letI (fun u2_84 => ?_)
                refine s_istore_n (pc := 84) [(2, .int u2_84), (0, .ref (gA G 1)), (1, .int v1), (3, .int v3), (4, .int v4)] dX11_crossings_84 rfl (Nat.le_of_ble_eq_true rfl) rfl ?_
                refine s_iinc (pc := 85) 4 1 [(4, .int (v4 + 1)), (2, .int u2_84), (0, .ref (gA G 1)), (1, .int v1), (3, .int v3)] dX11_crossings_85 rfl rfl (Nat.le_of_ble_eq_true rfl) rfl ?_
                refine s_goto (pc := 88) 22 dX11_crossings_88 rfl ?_
                refine s_sub [2, 3, 1, 4, 0] rfl ?_
                exact ih u2_84 (v4 + 1) P
          · refine s_iconst (pc := 82) (v := 0) dX11_crossings_82 rfl ?_
            refine s_iadd (pc := 83) dX11_crossings_83 ?_
            refine s_letI (fun u2_84 => ?_)
            refine s_istore_n (pc := 84) [(2, .int u2_84), (0, .ref (gA G 1)), (1, .int v1), (3, .int v3), (4, .int v4)] dX11_crossings_84 rfl (Nat.le_of_ble_eq_true rfl) rfl ?_
            refine s_iinc (pc := 85) 4 1 [(4, .int (v4 + 1)), (2, .int u2_84), (0, .ref (gA G 1)), (1, .int v1), (3, .int v3)] dX11_crossings_85 rfl rfl (Nat.le_of_ble_eq_true rfl) rfl ?_
            refine s_goto (pc := 88) 22 dX11_crossings_88 rfl ?_
            refine s_sub [2, 3, 1, 4, 0] rfl ?_
            exact ih u2_84 (v4 + 1) P
def Mo_crossings_9   (v1 : Int32)  : Nat → Int32 → Int32 → PH → Option (Int32 × PH)
  | 0 => fun _ _ _ => none
  | n + 1 => fun v2 v3 P =>
    gdI (0 : Int32) 512 <|
    if (P.1 88 (0 : Int32).toNatClampNeg) ≤ v3 then
      some (v2, P)
    else
      Mo_crossings_22 (Mo_crossings_9 v1 n) v1 v3 bigN v2 (0 : Int32) P
set_option maxRecDepth 100000 in
set_option maxHeartbeats 4000000 in
theorem Mo_crossings_9_sem {G : GT} {l : Launch} (hG : GOK G l)  (v1 : Int32)    : ∀ (n : Nat) (v2 : Int32) (v3 : Int32) (P : PH), Sem G l miX11_crossings 0 0 (rn tIH) 9 [(0, .ref (gA G 1)), (1, .int v1), (2, .int v2), (3, .int v3)] [] P (Mo_crossings_9 v1 n v2 v3 P) := by
  intro n
  induction n with
  | zero => intro v2 v3 P; exact s_none rfl
  | succ n ih =>
    intro v2 v3 P
    rw [Mo_crossings_9]
    refine s_iload_n (pc := 9) 3 dX11_crossings_9 rfl rfl ?_
    refine s_aload_n (pc := 10) 0 dX11_crossings_10 rfl rfl ?_
    refine s_getR (pc := 11) 88 dX11_crossings_11 (fi_X11_9 hG) kd_1 rfl ?_
    refine s_iconst (pc := 14) (v := 0) dX11_crossings_14 rfl ?_
    refine s_iald (pc := 15) 512 dX11_crossings_15 kd_88 ln_88 ?_
    refine s_icmp_ge (pc := 16) 97 dX11_crossings_16 rfl ?_ ?_
    · refine s_iload_n (pc := 97) 2 dX11_crossings_97 rfl rfl ?_
      exact s_iret (pc := 98) dX11_crossings_98 rfl rfl
    · refine s_iconst (pc := 19) (v := 0) dX11_crossings_19 rfl ?_
      refine s_istore (pc := 20) [(4, .int ((0 : Int32))), (0, .ref (gA G 1)), (1, .int v1), (2, .int v2), (3, .int v3)] dX11_crossings_20 (Nat.le_of_ble_eq_true rfl) rfl ?_
      refine s_sub [1, 2, 3, 4, 0] rfl ?_
      exact Mo_crossings_22_sem hG v1 v3 (Mo_crossings_9 v1 n) ih bigN v2 (0 : Int32) P
def Mo_crossings  (v1 : Int32) (P : PH) : Option (Int32 × PH) :=
  (some (sI P 1 5 (0 : Int32))).bind fun (P2 : PH) =>
  Mo_crossings_9 v1 bigN (0 : Int32) (0 : Int32) P2
set_option maxRecDepth 100000 in
set_option maxHeartbeats 4000000 in
theorem Mo_crossings_ok {G : GT} {l : Launch} (hG : GOK G l)  (v1 : Int32) (P : PH) : OkN G l yX11_crossings miX11_crossings 0 0 tIH [.ref (gA G 1), .int v1] P (Mo_crossings v1 P) := by
  refine okN_of hG _ [(0, .ref (gA G 1)), (1, .int v1)] rfl rfl rfl (Nat.le_of_ble_eq_true rfl) rfl ?_
  unfold Mo_crossings
  refine s_aload_n (pc := 0) 0 dX11_crossings_0 rfl rfl ?_
  refine s_iconst (pc := 1) (v := 0) dX11_crossings_1 rfl ?_
  refine s_putI (pc := 2) dX11_crossings_2 (fp_X11_86 hG) kd_1 ?_
  refine s_letP (fun P2 => ?_)
  refine s_iconst (pc := 5) (v := 0) dX11_crossings_5 rfl ?_
  refine s_istore_n (pc := 6) [(2, .int ((0 : Int32))), (0, .ref (gA G 1)), (1, .int v1)] dX11_crossings_6 rfl (Nat.le_of_ble_eq_true rfl) rfl ?_
  refine s_iconst (pc := 7) (v := 0) dX11_crossings_7 rfl ?_
  refine s_istore_n (pc := 8) [(3, .int ((0 : Int32))), (2, .int ((0 : Int32))), (0, .ref (gA G 1)), (1, .int v1)] dX11_crossings_8 rfl (Nat.le_of_ble_eq_true rfl) rfl ?_
  refine s_sub [2, 3, 1, 0] rfl ?_
  exact Mo_crossings_9_sem hG v1 bigN (0 : Int32) (0 : Int32) P2
def Mo_changedX  (v0 : Int32) (v1 : Int32) (v2 : Int32) (P : PH) : Option (Int32) :=
  if v0 = 0 then
    some (-v2)
  else
    if v0 = (1 : Int32) then
      some (-v1)
    else
      if v0 = (2 : Int32) then
        some (-v1)
      else
        some v1
set_option maxRecDepth 100000 in
set_option maxHeartbeats 4000000 in
theorem Mo_changedX_ok {G : GT} {l : Launch} (hG : GOK G l)  (v0 : Int32) (v1 : Int32) (v2 : Int32) (P : PH) : OkN G l yX11_changedX miX11_changedX 0 0 (tI P) [.int v0, .int v1, .int v2] P (Mo_changedX v0 v1 v2 P) := by
  refine okN_of hG _ [(0, .int v0), (1, .int v1), (2, .int v2)] rfl rfl rfl (Nat.le_of_ble_eq_true rfl) rfl ?_
  unfold Mo_changedX
  refine s_iload_n (pc := 0) 0 dX11_changedX_0 rfl rfl ?_
  refine s_if_ne (pc := 1) 9 dX11_changedX_1 rfl ?_ ?_
  · refine s_iload_n (pc := 4) 2 dX11_changedX_4 rfl rfl ?_
    refine s_ineg (pc := 5) dX11_changedX_5 ?_
    refine s_goto (pc := 6) 25 dX11_changedX_6 rfl ?_
    exact s_iret (pc := 25) dX11_changedX_25 rfl rfl
  · refine s_iload_n (pc := 9) 0 dX11_changedX_9 rfl rfl ?_
    refine s_iconst (pc := 10) (v := 1) dX11_changedX_10 rfl ?_
    refine s_icmp_eq (pc := 11) 19 dX11_changedX_11 rfl ?_ ?_
    · refine s_iload_n (pc := 19) 1 dX11_changedX_19 rfl rfl ?_
      refine s_ineg (pc := 20) dX11_changedX_20 ?_
      refine s_goto (pc := 21) 25 dX11_changedX_21 rfl ?_
      exact s_iret (pc := 25) dX11_changedX_25 rfl rfl
    · refine s_iload_n (pc := 14) 0 dX11_changedX_14 rfl rfl ?_
      refine s_iconst (pc := 15) (v := 2) dX11_changedX_15 rfl ?_
      refine s_icmp_ne (pc := 16) 24 dX11_changedX_16 rfl ?_ ?_
      · refine s_iload_n (pc := 19) 1 dX11_changedX_19 rfl rfl ?_
        refine s_ineg (pc := 20) dX11_changedX_20 ?_
        refine s_goto (pc := 21) 25 dX11_changedX_21 rfl ?_
        exact s_iret (pc := 25) dX11_changedX_25 rfl rfl
      · refine s_iload_n (pc := 24) 1 dX11_changedX_24 rfl rfl ?_
        exact s_iret (pc := 25) dX11_changedX_25 rfl rfl
def Mo_changedY  (v0 : Int32) (v1 : Int32) (v2 : Int32) (P : PH) : Option (Int32) :=
  if v0 = 0 then
    some v1
  else
    if v0 = (1 : Int32) then
      some (-v2)
    else
      if v0 = (3 : Int32) then
        some (-v2)
      else
        some v2
set_option maxRecDepth 100000 in
set_option maxHeartbeats 4000000 in
theorem Mo_changedY_ok {G : GT} {l : Launch} (hG : GOK G l)  (v0 : Int32) (v1 : Int32) (v2 : Int32) (P : PH) : OkN G l yX11_changedY miX11_changedY 0 0 (tI P) [.int v0, .int v1, .int v2] P (Mo_changedY v0 v1 v2 P) := by
  refine okN_of hG _ [(0, .int v0), (1, .int v1), (2, .int v2)] rfl rfl rfl (Nat.le_of_ble_eq_true rfl) rfl ?_
  unfold Mo_changedY
  refine s_iload_n (pc := 0) 0 dX11_changedY_0 rfl rfl ?_
  refine s_if_ne (pc := 1) 8 dX11_changedY_1 rfl ?_ ?_
  · refine s_iload_n (pc := 4) 1 dX11_changedY_4 rfl rfl ?_
    refine s_goto (pc := 5) 24 dX11_changedY_5 rfl ?_
    exact s_iret (pc := 24) dX11_changedY_24 rfl rfl
  · refine s_iload_n (pc := 8) 0 dX11_changedY_8 rfl rfl ?_
    refine s_iconst (pc := 9) (v := 1) dX11_changedY_9 rfl ?_
    refine s_icmp_eq (pc := 10) 18 dX11_changedY_10 rfl ?_ ?_
    · refine s_iload_n (pc := 18) 2 dX11_changedY_18 rfl rfl ?_
      refine s_ineg (pc := 19) dX11_changedY_19 ?_
      refine s_goto (pc := 20) 24 dX11_changedY_20 rfl ?_
      exact s_iret (pc := 24) dX11_changedY_24 rfl rfl
    · refine s_iload_n (pc := 13) 0 dX11_changedY_13 rfl rfl ?_
      refine s_iconst (pc := 14) (v := 3) dX11_changedY_14 rfl ?_
      refine s_icmp_ne (pc := 15) 23 dX11_changedY_15 rfl ?_ ?_
      · refine s_iload_n (pc := 18) 2 dX11_changedY_18 rfl rfl ?_
        refine s_ineg (pc := 19) dX11_changedY_19 ?_
        refine s_goto (pc := 20) 24 dX11_changedY_20 rfl ?_
        exact s_iret (pc := 24) dX11_changedY_24 rfl rfl
      · refine s_iload_n (pc := 23) 2 dX11_changedY_23 rfl rfl ?_
        exact s_iret (pc := 24) dX11_changedY_24 rfl rfl
def Mo_least_104  (r6 : Int32 → Int32 → Option (Int32)) (v1 : Int32) (v2 : Int32) (v4 : Int32) (s0 : Int32) (s1 : Int32) (P : PH) : Option (Int32) :=
  (some (jMin s1 s0)).bind fun (u3_107 : Int32) =>
  r6 u3_107 (v4 + 1)
set_option maxRecDepth 100000 in
set_option maxHeartbeats 4000000 in
theorem Mo_least_104_sem {G : GT} {l : Launch} (hG : GOK G l)  (v1 : Int32) (v2 : Int32) (v4 : Int32) (s0 : Int32) (s1 : Int32) (P : PH)  (r6 : Int32 → Int32 → Option (Int32)) (hr6 : ∀ (v3 : Int32) (v4 : Int32), Sem G l miX11_least 0 0 (rn (tI P)) 6 [(0, .ref (gA G 1)), (1, .int v1), (2, .int v2), (3, .int v3), (4, .int v4)] [] P (r6 v3 v4)) : Sem G l miX11_least 0 0 (rn (tI P)) 104 [(0, .ref (gA G 1)), (1, .int v1), (2, .int v2), (4, .int v4)] [.int s0, .int s1] P (Mo_least_104 r6 v1 v2 v4 s0 s1 P) := by
  unfold Mo_least_104
  refine s_mmin (pc := 104) dX11_least_104 (mk_X11_300 hG) (Nat.le_of_ble_eq_true rfl) (Nat.le_of_ble_eq_true rfl) ?_
  refine s_letI (fun u3_107 => ?_)
  refine s_istore_n (pc := 107) [(3, .int u3_107), (0, .ref (gA G 1)), (1, .int v1), (2, .int v2), (4, .int v4)] dX11_least_107 rfl (Nat.le_of_ble_eq_true rfl) rfl ?_
  refine s_iinc (pc := 108) 4 1 [(4, .int (v4 + 1)), (3, .int u3_107), (0, .ref (gA G 1)), (1, .int v1), (2, .int v2)] dX11_least_108 rfl rfl (Nat.le_of_ble_eq_true rfl) rfl ?_
  refine s_goto (pc := 111) 6 dX11_least_111 rfl ?_
  refine s_sub [2, 3, 4, 1, 0] rfl ?_
  exact hr6 u3_107 (v4 + 1)
def Mo_least_45  (r6 : Int32 → Int32 → Option (Int32)) (v1 : Int32) (v2 : Int32) (v3 : Int32) (v4 : Int32) (s0 : Int32) (P : PH) : Option (Int32) :=
  (some (s0 - s0 / (12 : Int32) * (12 : Int32))).bind fun (u6_52 : Int32) =>
  (some (s0 / (12 : Int32))).bind fun (u7_59 : Int32) =>
  if v1 = (4 : Int32) then
    if v2 = 0 then
      Mo_least_104 r6 v1 v2 v4 u6_52 v3 P
    else
      Mo_least_104 r6 v1 v2 v4 u7_59 v3 P
  else
    if v2 = 0 then
      (Mo_changedX v1 u6_52 u7_59 P).bind fun (x101 : Int32) =>
      Mo_least_104 r6 v1 v2 v4 x101 v3 P
    else
      (Mo_changedY v1 u6_52 u7_59 P).bind fun (x90 : Int32) =>
      Mo_least_104 r6 v1 v2 v4 x90 v3 P
set_option maxRecDepth 100000 in
set_option maxHeartbeats 4000000 in
theorem Mo_least_45_sem {G : GT} {l : Launch} (hG : GOK G l)  (v1 : Int32) (v2 : Int32) (v3 : Int32) (v4 : Int32) (s0 : Int32) (P : PH)  (r6 : Int32 → Int32 → Option (Int32)) (hr6 : ∀ (v3 : Int32) (v4 : Int32), Sem G l miX11_least 0 0 (rn (tI P)) 6 [(0, .ref (gA G 1)), (1, .int v1), (2, .int v2), (3, .int v3), (4, .int v4)] [] P (r6 v3 v4)) : Sem G l miX11_least 0 0 (rn (tI P)) 45 [(0, .ref (gA G 1)), (1, .int v1), (2, .int v2), (3, .int v3), (4, .int v4)] [.int s0] P (Mo_least_45 r6 v1 v2 v3 v4 s0 P) := by
  unfold Mo_least_45
  refine s_istore (pc := 45) [(5, .int s0), (0, .ref (gA G 1)), (1, .int v1), (2, .int v2), (3, .int v3), (4, .int v4)] dX11_least_45 (Nat.le_of_ble_eq_true rfl) rfl ?_
  refine s_iload (pc := 47) 0 dX11_least_47 rfl ?_
  refine s_bipush (pc := 49) (v := 12) dX11_least_49 rfl ?_
  refine s_irem (pc := 51) dX11_least_51 (by decide) ?_
  refine s_letI (fun u6_52 => ?_)
  refine s_istore (pc := 52) [(6, .int u6_52), (5, .int s0), (0, .ref (gA G 1)), (1, .int v1), (2, .int v2), (3, .int v3), (4, .int v4)] dX11_least_52 (Nat.le_of_ble_eq_true rfl) rfl ?_
  refine s_iload (pc := 54) 1 dX11_least_54 rfl ?_
  refine s_bipush (pc := 56) (v := 12) dX11_least_56 rfl ?_
  refine s_idiv (pc := 58) dX11_least_58 (by decide) ?_
  refine s_letI (fun u7_59 => ?_)
  refine s_istore (pc := 59) [(7, .int u7_59), (6, .int u6_52), (5, .int s0), (0, .ref (gA G 1)), (1, .int v1), (2, .int v2), (3, .int v3), (4, .int v4)] dX11_least_59 (Nat.le_of_ble_eq_true rfl) rfl ?_
  refine s_iload_n (pc := 61) 6 dX11_least_61 rfl rfl ?_
  refine s_iload_n (pc := 62) 4 dX11_least_62 rfl rfl ?_
  refine s_iconst (pc := 63) (v := 4) dX11_least_63 rfl ?_
  refine s_icmp_ne (pc := 64) 81 dX11_least_64 rfl ?_ ?_
  · refine s_iload_n (pc := 67) 5 dX11_least_67 rfl rfl ?_
    refine s_if_eq (pc := 68) 76 dX11_least_68 rfl ?_ ?_
    · refine s_iload (pc := 76) 1 dX11_least_76 rfl ?_
      refine s_goto (pc := 78) 104 dX11_least_78 rfl ?_
      refine s_sub [3, 4, 5, 7] rfl ?_
      exact Mo_least_104_sem hG v1 v2 v4 u6_52 v3 P r6 hr6
    · refine s_iload (pc := 71) 0 dX11_least_71 rfl ?_
      refine s_goto (pc := 73) 104 dX11_least_73 rfl ?_
      refine s_sub [3, 4, 5, 7] rfl ?_
      exact Mo_least_104_sem hG v1 v2 v4 u7_59 v3 P r6 hr6
  · refine s_iload_n (pc := 81) 5 dX11_least_81 rfl rfl ?_
    refine s_if_eq (pc := 82) 96 dX11_least_82 rfl ?_ ?_
    · refine s_iload_n (pc := 96) 4 dX11_least_96 rfl rfl ?_
      refine s_iload (pc := 97) 1 dX11_least_97 rfl ?_
      refine s_iload (pc := 99) 0 dX11_least_99 rfl ?_
      refine s_callS (k := 0) (n := 0) (pc := 101) [.int v1, .int u6_52, .int u7_59] (fun x101 => .int x101 :: [.int v3]) (fun _ => P) dX11_least_101 (cS_X11_312 hG) (Nat.le_of_ble_eq_true rfl) rfl (Mo_changedX_ok hG v1 u6_52 u7_59 P) rfl (fun _ => rfl) (fun _ => rfl) (Nat.le_of_ble_eq_true rfl) rfl rfl (fun x101 => ?_)
      refine s_sub [3, 4, 5, 7] rfl ?_
      exact Mo_least_104_sem hG v1 v2 v4 x101 v3 P r6 hr6
    · refine s_iload_n (pc := 85) 4 dX11_least_85 rfl rfl ?_
      refine s_iload (pc := 86) 1 dX11_least_86 rfl ?_
      refine s_iload (pc := 88) 0 dX11_least_88 rfl ?_
      refine s_callS (k := 0) (n := 0) (pc := 90) [.int v1, .int u6_52, .int u7_59] (fun x90 => .int x90 :: [.int v3]) (fun _ => P) dX11_least_90 (cS_X11_308 hG) (Nat.le_of_ble_eq_true rfl) rfl (Mo_changedY_ok hG v1 u6_52 u7_59 P) rfl (fun _ => rfl) (fun _ => rfl) (Nat.le_of_ble_eq_true rfl) rfl rfl (fun x90 => ?_)
      refine s_goto (pc := 93) 104 dX11_least_93 rfl ?_
      refine s_sub [3, 4, 5, 7] rfl ?_
      exact Mo_least_104_sem hG v1 v2 v4 x90 v3 P r6 hr6
def Mo_least_6   (v1 : Int32) (v2 : Int32) (P : PH) : Nat → Int32 → Int32 → Option (Int32)
  | 0 => fun _ _ => none
  | n + 1 => fun v3 v4 =>
    gdI (0 : Int32) 512 <|
    if ((2 : Int32) * (P.1 88 (0 : Int32).toNatClampNeg)) ≤ v4 then
      some v3
    else
      if (v4 - v4 / (2 : Int32) * (2 : Int32)) = 0 then
        (Mo_from (v4 / (2 : Int32)) P).bind fun (x31 : Int32) =>
        Mo_least_45 (Mo_least_6 v1 v2 P n) v1 v2 v3 v4 x31 P
      else
        (Mo_to (v4 / (2 : Int32)) P).bind fun (x42 : Int32) =>
        Mo_least_45 (Mo_least_6 v1 v2 P n) v1 v2 v3 v4 x42 P
set_option maxRecDepth 100000 in
set_option maxHeartbeats 4000000 in
theorem Mo_least_6_sem {G : GT} {l : Launch} (hG : GOK G l)  (v1 : Int32) (v2 : Int32) (P : PH)   : ∀ (n : Nat) (v3 : Int32) (v4 : Int32), Sem G l miX11_least 0 0 (rn (tI P)) 6 [(0, .ref (gA G 1)), (1, .int v1), (2, .int v2), (3, .int v3), (4, .int v4)] [] P (Mo_least_6 v1 v2 P n v3 v4) := by
  intro n
  induction n with
  | zero => intro v3 v4; exact s_none rfl
  | succ n ih =>
    intro v3 v4
    rw [Mo_least_6]
    refine s_iload (pc := 6) 4 dX11_least_6 rfl ?_
    refine s_iconst (pc := 8) (v := 2) dX11_least_8 rfl ?_
    refine s_aload_n (pc := 9) 0 dX11_least_9 rfl rfl ?_
    refine s_getR (pc := 10) 88 dX11_least_10 (fi_X11_9 hG) kd_1 rfl ?_
    refine s_iconst (pc := 13) (v := 0) dX11_least_13 rfl ?_
    refine s_iald (pc := 14) 512 dX11_least_14 kd_88 ln_88 ?_
    refine s_imul (pc := 15) dX11_least_15 ?_
    refine s_icmp_ge (pc := 16) 114 dX11_least_16 rfl ?_ ?_
    · refine s_iload_n (pc := 114) 3 dX11_least_114 rfl rfl ?_
      exact s_iret (pc := 115) dX11_least_115 rfl rfl
    · refine s_iload (pc := 19) 4 dX11_least_19 rfl ?_
      refine s_iconst (pc := 21) (v := 2) dX11_least_21 rfl ?_
      refine s_irem (pc := 22) dX11_least_22 (by decide) ?_
      refine s_if_ne (pc := 23) 37 dX11_least_23 rfl ?_ ?_
      · refine s_aload_n (pc := 26) 0 dX11_least_26 rfl rfl ?_
        refine s_iload (pc := 27) 4 dX11_least_27 rfl ?_
        refine s_iconst (pc := 29) (v := 2) dX11_least_29 rfl ?_
        refine s_idiv (pc := 30) dX11_least_30 (by decide) ?_
        refine s_callV (k := 0) (n := 0) (pc := 31) [.int (v4 / (2 : Int32))] (fun x31 => .int x31 :: []) (fun _ => P) dX11_least_31 (cV_X11_261 hG) (Nat.le_of_ble_eq_true rfl) rfl kd_1 (Mo_from_ok hG (v4 / (2 : Int32)) P) rfl (fun _ => rfl) (fun _ => rfl) (Nat.le_of_ble_eq_true rfl) rfl rfl (fun x31 => ?_)
        refine s_goto (pc := 34) 45 dX11_least_34 rfl ?_
        exact Mo_least_45_sem hG v1 v2 v3 v4 x31 P (Mo_least_6 v1 v2 P n) ih
      · refine s_aload_n (pc := 37) 0 dX11_least_37 rfl rfl ?_
        refine s_iload (pc := 38) 4 dX11_least_38 rfl ?_
        refine s_iconst (pc := 40) (v := 2) dX11_least_40 rfl ?_
        refine s_idiv (pc := 41) dX11_least_41 (by decide) ?_
        refine s_callV (k := 0) (n := 0) (pc := 42) [.int (v4 / (2 : Int32))] (fun x42 => .int x42 :: []) (fun _ => P) dX11_least_42 (cV_X11_264 hG) (Nat.le_of_ble_eq_true rfl) rfl kd_1 (Mo_to_ok hG (v4 / (2 : Int32)) P) rfl (fun _ => rfl) (fun _ => rfl) (Nat.le_of_ble_eq_true rfl) rfl rfl (fun x42 => ?_)
        exact Mo_least_45_sem hG v1 v2 v3 v4 x42 P (Mo_least_6 v1 v2 P n) ih
def Mo_least  (v1 : Int32) (v2 : Int32) (P : PH) : Option (Int32) :=
  Mo_least_6 v1 v2 P bigN (100 : Int32) (0 : Int32)
set_option maxRecDepth 100000 in
set_option maxHeartbeats 4000000 in
theorem Mo_least_ok {G : GT} {l : Launch} (hG : GOK G l)  (v1 : Int32) (v2 : Int32) (P : PH) : OkN G l yX11_least miX11_least 0 0 (tI P) [.ref (gA G 1), .int v1, .int v2] P (Mo_least v1 v2 P) := by
  refine okN_of hG _ [(0, .ref (gA G 1)), (1, .int v1), (2, .int v2)] rfl rfl rfl (Nat.le_of_ble_eq_true rfl) rfl ?_
  unfold Mo_least
  refine s_bipush (pc := 0) (v := 100) dX11_least_0 rfl ?_
  refine s_istore_n (pc := 2) [(3, .int ((100 : Int32))), (0, .ref (gA G 1)), (1, .int v1), (2, .int v2)] dX11_least_2 rfl (Nat.le_of_ble_eq_true rfl) rfl ?_
  refine s_iconst (pc := 3) (v := 0) dX11_least_3 rfl ?_
  refine s_istore (pc := 4) [(4, .int ((0 : Int32))), (3, .int ((100 : Int32))), (0, .ref (gA G 1)), (1, .int v1), (2, .int v2)] dX11_least_4 (Nat.le_of_ble_eq_true rfl) rfl ?_
  refine s_sub [2, 3, 4, 1, 0] rfl ?_
  exact Mo_least_6_sem hG v1 v2 P bigN (100 : Int32) (0 : Int32)
