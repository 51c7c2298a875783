def Mo_corner_26   (v1 : Int32) (v2 : Int32) (P : PH) : Option (Int32 × PH) :=
  gdI v2 12 <|
  (some (sI P 103 v2.toNatClampNeg v1)).bind fun (P32 : PH) =>
  if v2 = (P32.1 1 39) then
    (some (sI P32 1 39 ((P32.1 1 39) + (1 : Int32)))).bind fun (P48 : PH) =>
    some (v2, P48)
  else
    some (v2, P32)
set_option maxRecDepth 100000 in
set_option maxHeartbeats 4000000 in
theorem Mo_corner_26_sem {G : GT} {l : Launch} (hG : GOK G l)  (v1 : Int32) (v2 : Int32) (P : PH)   : Sem G l miX11_corner 0 0 (rn tIH) 26 [(0, .ref (gA G 1)), (1, .int v1), (2, .int v2)] [] P (Mo_corner_26 v1 v2 P) := by
  unfold Mo_corner_26
  refine s_aload_n (pc := 26) 0 dX11_corner_26 rfl rfl ?_
  refine s_getR (pc := 27) 103 dX11_corner_27 (fi_X11_60 hG) kd_1 rfl ?_
  refine s_iload_n (pc := 30) 2 dX11_corner_30 rfl rfl ?_
  refine s_iload_n (pc := 31) 1 dX11_corner_31 rfl rfl ?_
  refine s_iast (pc := 32) 12 dX11_corner_32 kd_103 ln_103 ?_
  refine s_letP (fun P32 => ?_)
  refine s_iload_n (pc := 33) 2 dX11_corner_33 rfl rfl ?_
  refine s_aload_n (pc := 34) 0 dX11_corner_34 rfl rfl ?_
  refine s_getI (pc := 35) dX11_corner_35 (fi_X11_398 hG) kd_1 ?_
  refine s_icmp_ne (pc := 38) 51 dX11_corner_38 rfl ?_ ?_
  · refine s_aload_n (pc := 41) 0 dX11_corner_41 rfl rfl ?_
    refine s_dup (pc := 42) dX11_corner_42 rfl ?_
    refine s_getI (pc := 43) dX11_corner_43 (fi_X11_398 hG) kd_1 ?_
    refine s_iconst (pc := 46) (v := 1) dX11_corner_46 rfl ?_
    refine s_iadd (pc := 47) dX11_corner_47 ?_
    refine s_putI (pc := 48) dX11_corner_48 (fp_X11_398 hG) kd_1 ?_
    refine s_letP (fun P48 => ?_)
    refine s_iload_n (pc := 51) 2 dX11_corner_51 rfl rfl ?_
    exact s_iret (pc := 52) dX11_corner_52 rfl rfl
  · refine s_iload_n (pc := 51) 2 dX11_corner_51 rfl rfl ?_
    exact s_iret (pc := 52) dX11_corner_52 rfl rfl
def Mo_corner_2   (v1 : Int32)  : Nat → Int32 → PH → Option (Int32 × PH)
  | 0 => fun _ _ => none
  | n + 1 => fun v2 P =>
    if (P.1 1 39) ≤ v2 then
      Mo_corner_26 v1 v2 P
    else
      gdI v2 12 <|
      if (P.1 103 v2.toNatClampNeg) = v1 then
        Mo_corner_26 v1 v2 P
      else
        Mo_corner_2 v1 n (v2 + 1) P
set_option maxRecDepth 100000 in
set_option maxHeartbeats 4000000 in
theorem Mo_corner_2_sem {G : GT} {l : Launch} (hG : GOK G l)  (v1 : Int32)    : ∀ (n : Nat) (v2 : Int32) (P : PH), Sem G l miX11_corner 0 0 (rn tIH) 2 [(0, .ref (gA G 1)), (1, .int v1), (2, .int v2)] [] P (Mo_corner_2 v1 n v2 P) := by
  intro n
  induction n with
  | zero => intro v2 P; exact s_none rfl
  | succ n ih =>
    intro v2 P
    rw [Mo_corner_2]
    refine s_iload_n (pc := 2) 2 dX11_corner_2 rfl rfl ?_
    refine s_aload_n (pc := 3) 0 dX11_corner_3 rfl rfl ?_
    refine s_getI (pc := 4) dX11_corner_4 (fi_X11_398 hG) kd_1 ?_
    refine s_icmp_ge (pc := 7) 26 dX11_corner_7 rfl ?_ ?_
    · exact Mo_corner_26_sem hG v1 v2 P
    · refine s_aload_n (pc := 10) 0 dX11_corner_10 rfl rfl ?_
      refine s_getR (pc := 11) 103 dX11_corner_11 (fi_X11_60 hG) kd_1 rfl ?_
      refine s_iload_n (pc := 14) 2 dX11_corner_14 rfl rfl ?_
      refine s_iald (pc := 15) 12 dX11_corner_15 kd_103 ln_103 ?_
      refine s_iload_n (pc := 16) 1 dX11_corner_16 rfl rfl ?_
      refine s_icmp_eq (pc := 17) 26 dX11_corner_17 rfl ?_ ?_
      · exact Mo_corner_26_sem hG v1 v2 P
      · refine s_iinc (pc := 20) 2 1 [(2, .int (v2 + 1)), (0, .ref (gA G 1)), (1, .int v1)] dX11_corner_20 rfl rfl (Nat.le_of_ble_eq_true rfl) rfl ?_
        refine s_goto (pc := 23) 2 dX11_corner_23 rfl ?_
        refine s_sub [1, 2, 0] rfl ?_
        exact ih (v2 + 1) P
def Mo_corner  (v1 : Int32) (P : PH) : Option (Int32 × PH) :=
  Mo_corner_2 v1 bigN (0 : Int32) P
set_option maxRecDepth 100000 in
set_option maxHeartbeats 4000000 in
theorem Mo_corner_ok {G : GT} {l : Launch} (hG : GOK G l)  (v1 : Int32) (P : PH) : OkN G l yX11_corner miX11_corner 0 0 tIH [.ref (gA G 1), .int v1] P (Mo_corner v1 P) := by
  refine okN_of hG _ [(0, .ref (gA G 1)), (1, .int v1)] rfl rfl rfl (Nat.le_of_ble_eq_true rfl) rfl ?_
  unfold Mo_corner
  refine s_iconst (pc := 0) (v := 0) dX11_corner_0 rfl ?_
  refine s_istore_n (pc := 1) [(2, .int ((0 : Int32))), (0, .ref (gA G 1)), (1, .int v1)] dX11_corner_1 rfl (Nat.le_of_ble_eq_true rfl) rfl ?_
  refine s_sub [1, 2, 0] rfl ?_
  exact Mo_corner_2_sem hG v1 bigN (0 : Int32) P
def Mo_knots_4    (P : PH) : Nat → Int32 → Int32 → Option (Int32)
  | 0 => fun _ _ => none
  | n + 1 => fun v1 v2 =>
    if (144 : Int32) ≤ v2 then
      some v1
    else
      gdI ((248 : Int32) + v2) 512 <|
      (some (v1 + (P.1 88 ((248 : Int32) + v2).toNatClampNeg))).bind fun (u1_23 : Int32) =>
      Mo_knots_4 P n u1_23 (v2 + 1)
set_option maxRecDepth 100000 in
set_option maxHeartbeats 4000000 in
theorem Mo_knots_4_sem {G : GT} {l : Launch} (hG : GOK G l)   (P : PH)   : ∀ (n : Nat) (v1 : Int32) (v2 : Int32), Sem G l miX11_knots 0 0 (rn (tI P)) 4 [(0, .ref (gA G 1)), (1, .int v1), (2, .int v2)] [] P (Mo_knots_4 P n v1 v2) := by
  intro n
  induction n with
  | zero => intro v1 v2; exact s_none rfl
  | succ n ih =>
    intro v1 v2
    rw [Mo_knots_4]
    refine s_iload_n (pc := 4) 2 dX11_knots_4 rfl rfl ?_
    refine s_sipush (pc := 5) (v := 144) dX11_knots_5 rfl ?_
    refine s_icmp_ge (pc := 8) 30 dX11_knots_8 rfl ?_ ?_
    · refine s_iload_n (pc := 30) 1 dX11_knots_30 rfl rfl ?_
      exact s_iret (pc := 31) dX11_knots_31 rfl rfl
    · refine s_iload_n (pc := 11) 1 dX11_knots_11 rfl rfl ?_
      refine s_aload_n (pc := 12) 0 dX11_knots_12 rfl rfl ?_
      refine s_getR (pc := 13) 88 dX11_knots_13 (fi_X11_9 hG) kd_1 rfl ?_
      refine s_sipush (pc := 16) (v := 248) dX11_knots_16 rfl ?_
      refine s_iload_n (pc := 19) 2 dX11_knots_19 rfl rfl ?_
      refine s_iadd (pc := 20) dX11_knots_20 ?_
      refine s_iald (pc := 21) 512 dX11_knots_21 kd_88 ln_88 ?_
      refine s_iadd (pc := 22) dX11_knots_22 ?_
      refine s_letI (fun u1_23 => ?_)
      refine s_istore_n (pc := 23) [(1, .int u1_23), (0, .ref (gA G 1)), (2, .int v2)] dX11_knots_23 rfl (Nat.le_of_ble_eq_true rfl) rfl ?_
      refine s_iinc (pc := 24) 2 1 [(2, .int (v2 + 1)), (1, .int u1_23), (0, .ref (gA G 1))] dX11_knots_24 rfl rfl (Nat.le_of_ble_eq_true rfl) rfl ?_
      refine s_goto (pc := 27) 4 dX11_knots_27 rfl ?_
      refine s_sub [2, 1, 0] rfl ?_
      exact ih u1_23 (v2 + 1)
def Mo_knots   (P : PH) : Option (Int32) :=
  Mo_knots_4 P bigN (0 : Int32) (0 : Int32)
set_option maxRecDepth 100000 in
set_option maxHeartbeats 4000000 in
theorem Mo_knots_ok {G : GT} {l : Launch} (hG : GOK G l)   (P : PH) : OkN G l yX11_knots miX11_knots 0 0 (tI P) [.ref (gA G 1)] P (Mo_knots P) := by
  refine okN_of hG _ [(0, .ref (gA G 1))] rfl rfl rfl (Nat.le_of_ble_eq_true rfl) rfl ?_
  unfold Mo_knots
  refine s_iconst (pc := 0) (v := 0) dX11_knots_0 rfl ?_
  refine s_istore_n (pc := 1) [(1, .int ((0 : Int32))), (0, .ref (gA G 1))] dX11_knots_1 rfl (Nat.le_of_ble_eq_true rfl) rfl ?_
  refine s_iconst (pc := 2) (v := 0) dX11_knots_2 rfl ?_
  refine s_istore_n (pc := 3) [(2, .int ((0 : Int32))), (1, .int ((0 : Int32))), (0, .ref (gA G 1))] dX11_knots_3 rfl (Nat.le_of_ble_eq_true rfl) rfl ?_
  refine s_sub [2, 1, 0] rfl ?_
  exact Mo_knots_4_sem hG P bigN (0 : Int32) (0 : Int32)
def Mo_sees  (v1 : Int32) (v2 : Int32) (v3 : Int32) (P : PH) : Option (PH) :=
  (some ((((24 : Int32) * v1) + ((2 : Int32) * v2)) + v3)).bind fun (u4_10 : Int32) =>
  gdI u4_10 98304 <|
  if (P.1 106 u4_10.toNatClampNeg) = 0 then
    gdI u4_10 98304 <|
    (some (sI P 106 u4_10.toNatClampNeg (vp_nar .boolean (1 : Int32)))).bind fun (P30 : PH) =>
    gdI (P30.1 1 40) 98304 <|
    (some (sI P30 105 (P30.1 1 40).toNatClampNeg u4_10)).bind fun (P41 : PH) =>
    (some (sI P41 1 40 ((P41.1 1 40) + (1 : Int32)))).bind fun (P49 : PH) =>
    some P49
  else
    some P
set_option maxRecDepth 100000 in
set_option maxHeartbeats 4000000 in
theorem Mo_sees_ok {G : GT} {l : Launch} (hG : GOK G l)  (v1 : Int32) (v2 : Int32) (v3 : Int32) (P : PH) : OkN G l yX11_sees miX11_sees 0 0 tVH [.ref (gA G 1), .int v1, .int v2, .int v3] P (Mo_sees v1 v2 v3 P) := by
  refine okN_of hG _ [(0, .ref (gA G 1)), (1, .int v1), (2, .int v2), (3, .int v3)] rfl rfl rfl (Nat.le_of_ble_eq_true rfl) rfl ?_
  unfold Mo_sees
  refine s_bipush (pc := 0) (v := 24) dX11_sees_0 rfl ?_
  refine s_iload_n (pc := 2) 1 dX11_sees_2 rfl rfl ?_
  refine s_imul (pc := 3) dX11_sees_3 ?_
  refine s_iconst (pc := 4) (v := 2) dX11_sees_4 rfl ?_
  refine s_iload_n (pc := 5) 2 dX11_sees_5 rfl rfl ?_
  refine s_imul (pc := 6) dX11_sees_6 ?_
  refine s_iadd (pc := 7) dX11_sees_7 ?_
  refine s_iload_n (pc := 8) 3 dX11_sees_8 rfl rfl ?_
  refine s_iadd (pc := 9) dX11_sees_9 ?_
  refine s_letI (fun u4_10 => ?_)
  refine s_istore (pc := 10) [(4, .int u4_10), (0, .ref (gA G 1)), (1, .int v1), (2, .int v2), (3, .int v3)] dX11_sees_10 (Nat.le_of_ble_eq_true rfl) rfl ?_
  refine s_aload_n (pc := 12) 1 dX11_sees_12 rfl rfl ?_
  refine s_getR (pc := 13) 106 dX11_sees_13 (fi_X11_70 hG) kd_1 rfl ?_
  refine s_iload (pc := 16) 0 dX11_sees_16 rfl ?_
  refine s_zald (pc := 18) 98304 dX11_sees_18 kd_106 ln_106 ?_
  refine s_if_eq (pc := 19) 23 dX11_sees_19 rfl ?_ ?_
  · refine s_aload_n (pc := 23) 1 dX11_sees_23 rfl rfl ?_
    refine s_getR (pc := 24) 106 dX11_sees_24 (fi_X11_70 hG) kd_1 rfl ?_
    refine s_iload (pc := 27) 0 dX11_sees_27 rfl ?_
    refine s_iconst (pc := 29) (v := 1) dX11_sees_29 rfl ?_
    refine s_zast (pc := 30) 98304 dX11_sees_30 kd_106 ln_106 ?_
    refine s_letP (fun P30 => ?_)
    refine s_aload_n (pc := 31) 1 dX11_sees_31 rfl rfl ?_
    refine s_getR (pc := 32) 105 dX11_sees_32 (fi_X11_67 hG) kd_1 rfl ?_
    refine s_aload_n (pc := 35) 1 dX11_sees_35 rfl rfl ?_
    refine s_getI (pc := 36) dX11_sees_36 (fi_X11_401 hG) kd_1 ?_
    refine s_iload (pc := 39) 0 dX11_sees_39 rfl ?_
    refine s_iast (pc := 41) 98304 dX11_sees_41 kd_105 ln_105 ?_
    refine s_letP (fun P41 => ?_)
    refine s_aload_n (pc := 42) 1 dX11_sees_42 rfl rfl ?_
    refine s_dup (pc := 43) dX11_sees_43 rfl ?_
    refine s_getI (pc := 44) dX11_sees_44 (fi_X11_401 hG) kd_1 ?_
    refine s_iconst (pc := 47) (v := 1) dX11_sees_47 rfl ?_
    refine s_iadd (pc := 48) dX11_sees_48 ?_
    refine s_putI (pc := 49) dX11_sees_49 (fp_X11_401 hG) kd_1 ?_
    refine s_letP (fun P49 => ?_)
    exact s_vret (pc := 52) dX11_sees_52 rfl rfl
  · exact s_vret (pc := 22) dX11_sees_22 rfl rfl
def Mo_size_4    (P : PH) : Nat → Int32 → Int32 → Option (Int32)
  | 0 => fun _ _ => none
  | n + 1 => fun v1 v2 =>
    if v2 = 0 then
      some v1
    else
      (some (v2 &&& (v2 - (1 : Int32)))).bind fun (u2_16 : Int32) =>
      Mo_size_4 P n (v1 + 1) u2_16
set_option maxRecDepth 100000 in
set_option maxHeartbeats 4000000 in
theorem Mo_size_4_sem {G : GT} {l : Launch} (hG : GOK G l)   (P : PH)   : ∀ (n : Nat) (v1 : Int32) (v2 : Int32), Sem G l miX11_size 0 0 (rn (tI P)) 4 [(1, .int v1), (2, .int v2)] [] P (Mo_size_4 P n v1 v2) := by
  intro n
  induction n with
  | zero => intro v1 v2; exact s_none rfl
  | succ n ih =>
    intro v1 v2
    rw [Mo_size_4]
    refine s_iload_n (pc := 4) 1 dX11_size_4 rfl rfl ?_
    refine s_if_eq (pc := 5) 20 dX11_size_5 rfl ?_ ?_
    · refine s_iload_n (pc := 20) 0 dX11_size_20 rfl rfl ?_
      exact s_iret (pc := 21) dX11_size_21 rfl rfl
    · refine s_iinc (pc := 8) 0 1 [(1, .int (v1 + 1)), (2, .int v2)] dX11_size_8 rfl rfl (Nat.le_of_ble_eq_true rfl) rfl ?_
      refine s_iload_n (pc := 11) 1 dX11_size_11 rfl rfl ?_
      refine s_iload_n (pc := 12) 1 dX11_size_12 rfl rfl ?_
      refine s_iconst (pc := 13) (v := 1) dX11_size_13 rfl ?_
      refine s_isub (pc := 14) dX11_size_14 ?_
      refine s_iand (pc := 15) dX11_size_15 ?_
      refine s_letI (fun u2_16 => ?_)
      refine s_istore_n (pc := 16) [(2, .int u2_16), (1, .int (v1 + 1))] dX11_size_16 rfl (Nat.le_of_ble_eq_true rfl) rfl ?_
      refine s_goto (pc := 17) 4 dX11_size_17 rfl ?_
      refine s_sub [1, 0] rfl ?_
      exact ih (v1 + 1) u2_16
def Mo_size  (v0 : Int32) (P : PH) : Option (Int32) :=
  Mo_size_4 P bigN (0 : Int32) v0
set_option maxRecDepth 100000 in
set_option maxHeartbeats 4000000 in
theorem Mo_size_ok {G : GT} {l : Launch} (hG : GOK G l)  (v0 : Int32) (P : PH) : OkN G l yX11_size miX11_size 0 0 (tI P) [.int v0] P (Mo_size v0 P) := by
  refine okN_of hG _ [(0, .int v0)] rfl rfl rfl (Nat.le_of_ble_eq_true rfl) rfl ?_
  unfold Mo_size
  refine s_iconst (pc := 0) (v := 0) dX11_size_0 rfl ?_
  refine s_istore_n (pc := 1) [(1, .int ((0 : Int32))), (0, .int v0)] dX11_size_1 rfl (Nat.le_of_ble_eq_true rfl) rfl ?_
  refine s_iload_n (pc := 2) 1 dX11_size_2 rfl rfl ?_
  refine s_istore_n (pc := 3) [(2, .int v0), (1, .int ((0 : Int32))), (0, .int v0)] dX11_size_3 rfl (Nat.le_of_ble_eq_true rfl) rfl ?_
  refine s_sub [1, 0] rfl ?_
  exact Mo_size_4_sem hG P bigN (0 : Int32) v0
def Mo_layOnes_330  (r128 : Int32 → PH → Option (PH)) (r219 : Int32 → PH → Option (PH)) (v1 : Int32) (v2 : Int32) (v3 : Int32) (v4 : Int32) (v5 : Int32) (v6 : Int32) (v7 : Int32) (s0 : Int32) (s2 : Int32) (P : PH) : Option (PH) :=
  (Mo_corner s0 P).bind fun (x330 : Int32 × PH) =>
  (Mo_sees s2 x330.1 ((1 : Int32) - v6) x330.2).bind fun (x337 : PH) =>
  r219 (v7 + 1) x337
set_option maxRecDepth 100000 in
set_option maxHeartbeats 4000000 in
theorem Mo_layOnes_330_sem {G : GT} {l : Launch} (hG : GOK G l)  (v1 : Int32) (v2 : Int32) (v3 : Int32) (v4 : Int32) (v5 : Int32) (v6 : Int32) (v7 : Int32) (s0 : Int32) (s2 : Int32) (P : PH)  (r128 : Int32 → PH → Option (PH)) (hr128 : ∀ (v3 : Int32) (P : PH), Sem G l miX11_layOnes 0 0 (rn tVH) 128 [(0, .ref (gA G 1)), (1, .int v1), (2, .int v2), (3, .int v3)] [] P (r128 v3 P)) (r219 : Int32 → PH → Option (PH)) (hr219 : ∀ (v7 : Int32) (P : PH), Sem G l miX11_layOnes 0 0 (rn tVH) 219 [(0, .ref (gA G 1)), (1, .int v1), (2, .int v2), (3, .int v3), (4, .int v4), (5, .int v5), (6, .int v6), (7, .int v7)] [] P (r219 v7 P)) : Sem G l miX11_layOnes 0 0 (rn tVH) 330 [(0, .ref (gA G 1)), (1, .int v1), (2, .int v2), (3, .int v3), (4, .int v4), (5, .int v5), (6, .int v6), (7, .int v7)] [.int s0, .ref (gA G 1), .int s2, .ref (gA G 1)] P (Mo_layOnes_330 r128 r219 v1 v2 v3 v4 v5 v6 v7 s0 s2 P) := by
  unfold Mo_layOnes_330
  refine s_callV (k := 0) (n := 0) (pc := 330) [.int s0] (fun x330 => .int (x330.1) :: [.int s2, .ref (gA G 1)]) (fun x330 => x330.2) dX11_layOnes_330 (cV_X11_416 hG) (Nat.le_of_ble_eq_true rfl) rfl kd_1 (Mo_corner_ok hG s0 P) rfl (fun _ => rfl) (fun _ => rfl) (Nat.le_of_ble_eq_true rfl) rfl rfl (fun x330 => ?_)
  refine s_iconst (pc := 333) (v := 1) dX11_layOnes_333 rfl ?_
  refine s_iload (pc := 334) 6 dX11_layOnes_334 rfl ?_
  refine s_isub (pc := 336) dX11_layOnes_336 ?_
  refine s_callV (k := 0) (n := 0) (pc := 337) [.int s2, .int (x330.1), .int ((1 : Int32) - v6)] (fun _ => []) (fun x337 => x337) dX11_layOnes_337 (cV_X11_407 hG) (Nat.le_of_ble_eq_true rfl) rfl kd_1 (Mo_sees_ok hG s2 x330.1 ((1 : Int32) - v6) x330.2) rfl (fun _ => rfl) (fun _ => rfl) (Nat.le_of_ble_eq_true rfl) rfl rfl (fun x337 => ?_)
  refine s_iinc (pc := 340) 7 1 [(7, .int (v7 + 1)), (0, .ref (gA G 1)), (1, .int v1), (2, .int v2), (3, .int v3), (4, .int v4), (5, .int v5), (6, .int v6)] dX11_layOnes_340 rfl rfl (Nat.le_of_ble_eq_true rfl) rfl ?_
  refine s_goto (pc := 343) 219 dX11_layOnes_343 rfl ?_
  refine s_sub [1, 2, 3, 4, 5, 6, 7, 0] rfl ?_
  exact hr219 (v7 + 1) x337
def Mo_layOnes_219  (r128 : Int32 → PH → Option (PH)) (v1 : Int32) (v2 : Int32) (v3 : Int32) (v4 : Int32) (v5 : Int32) (v6 : Int32)  : Nat → Int32 → PH → Option (PH)
  | 0 => fun _ _ => none
  | n + 1 => fun v7 P =>
    if (P.1 1 38) ≤ v7 then
      r128 (v3 + 1) P
    else
      (Mo_size v4 P).bind fun (x230 : Int32) =>
      if v1 ≤ x230 then
        r128 (v3 + 1) P
      else
        (some ((1 : Int32) <<< ((((2 : Int32) * v7) + v6) &&& 31))).bind fun (u8_246 : Int32) =>
        if (v4 &&& u8_246) = 0 then
          gdI v7 6 <|
          gdI v5 12 <|
          (Mo_isAt (P.1 102 v7.toNatClampNeg) (P.1 103 v5.toNatClampNeg) P).bind fun (x271 : Int32) =>
          if x271 = 0 then
            Mo_layOnes_219 r128 v1 v2 v3 v4 v5 v6 n (v7 + 1) P
          else
            gdI v7 6 <|
            (Mo_from (P.1 102 v7.toNatClampNeg) P).bind fun (x292 : Int32) =>
            gdI v5 12 <|
            if x292 = (P.1 103 v5.toNatClampNeg) then
              gdI v7 6 <|
              (Mo_to (P.1 102 v7.toNatClampNeg) P).bind fun (x313 : Int32) =>
              Mo_layOnes_330 r128 (Mo_layOnes_219 r128 v1 v2 v3 v4 v5 v6 n) v1 v2 v3 v4 v5 v6 v7 x313 (v4 ||| u8_246) P
            else
              gdI v7 6 <|
              (Mo_from (P.1 102 v7.toNatClampNeg) P).bind fun (x327 : Int32) =>
              Mo_layOnes_330 r128 (Mo_layOnes_219 r128 v1 v2 v3 v4 v5 v6 n) v1 v2 v3 v4 v5 v6 v7 x327 (v4 ||| u8_246) P
        else
          Mo_layOnes_219 r128 v1 v2 v3 v4 v5 v6 n (v7 + 1) P
set_option maxRecDepth 100000 in
set_option maxHeartbeats 4000000 in
theorem Mo_layOnes_219_sem {G : GT} {l : Launch} (hG : GOK G l)  (v1 : Int32) (v2 : Int32) (v3 : Int32) (v4 : Int32) (v5 : Int32) (v6 : Int32)   (r128 : Int32 → PH → Option (PH)) (hr128 : ∀ (v3 : Int32) (P : PH), Sem G l miX11_layOnes 0 0 (rn tVH) 128 [(0, .ref (gA G 1)), (1, .int v1), (2, .int v2), (3, .int v3)] [] P (r128 v3 P)) : ∀ (n : Nat) (v7 : Int32) (P : PH), Sem G l miX11_layOnes 0 0 (rn tVH) 219 [(0, .ref (gA G 1)), (1, .int v1), (2, .int v2), (3, .int v3), (4, .int v4), (5, .int v5), (6, .int v6), (7, .int v7)] [] P (Mo_layOnes_219 r128 v1 v2 v3 v4 v5 v6 n v7 P) := by
  intro n
  induction n with
  | zero => intro v7 P; exact s_none rfl
  | succ n ih =>
    intro v7 P
    rw [Mo_layOnes_219]
    refine s_iload (pc := 219) 7 dX11_layOnes_219 rfl ?_
    refine s_aload_n (pc := 221) 0 dX11_layOnes_221 rfl rfl ?_
    refine s_getI (pc := 222) dX11_layOnes_222 (fi_X11_411 hG) kd_1 ?_
    refine s_icmp_ge (pc := 225) 346 dX11_layOnes_225 rfl ?_ ?_
    · refine s_iinc (pc := 346) 3 1 [(3, .int (v3 + 1)), (0, .ref (gA G 1)), (1, .int v1), (2, .int v2), (4, .int v4), (5, .int v5), (6, .int v6), (7, .int v7)] dX11_layOnes_346 rfl rfl (Nat.le_of_ble_eq_true rfl) rfl ?_
      refine s_goto (pc := 349) 128 dX11_layOnes_349 rfl ?_
      refine s_sub [1, 2, 3, 0] rfl ?_
      exact hr128 (v3 + 1) P
    · refine s_iload (pc := 228) 4 dX11_layOnes_228 rfl ?_
      refine s_callS (k := 0) (n := 0) (pc := 230) [.int v4] (fun x230 => .int x230 :: []) (fun _ => P) dX11_layOnes_230 (cS_X11_414 hG) (Nat.le_of_ble_eq_true rfl) rfl (Mo_size_ok hG v4 P) rfl (fun _ => rfl) (fun _ => rfl) (Nat.le_of_ble_eq_true rfl) rfl rfl (fun x230 => ?_)
      refine s_iload_n (pc := 233) 1 dX11_layOnes_233 rfl rfl ?_
      refine s_icmp_ge (pc := 234) 346 dX11_layOnes_234 rfl ?_ ?_
      · refine s_iinc (pc := 346) 3 1 [(3, .int (v3 + 1)), (0, .ref (gA G 1)), (1, .int v1), (2, .int v2), (4, .int v4), (5, .int v5), (6, .int v6), (7, .int v7)] dX11_layOnes_346 rfl rfl (Nat.le_of_ble_eq_true rfl) rfl ?_
        refine s_goto (pc := 349) 128 dX11_layOnes_349 rfl ?_
        refine s_sub [1, 2, 3, 0] rfl ?_
        exact hr128 (v3 + 1) P
      · refine s_iconst (pc := 237) (v := 1) dX11_layOnes_237 rfl ?_
        refine s_iconst (pc := 238) (v := 2) dX11_layOnes_238 rfl ?_
        refine s_iload (pc := 239) 7 dX11_layOnes_239 rfl ?_
        refine s_imul (pc := 241) dX11_layOnes_241 ?_
        refine s_iload (pc := 242) 6 dX11_layOnes_242 rfl ?_
        refine s_iadd (pc := 244) dX11_layOnes_244 ?_
        refine s_ishl (pc := 245) dX11_layOnes_245 ?_
        refine s_letI (fun u8_246 => ?_)
        refine s_istore (pc := 246) [(8, .int u8_246), (0, .ref (gA G 1)), (1, .int v1), (2, .int v2), (3, .int v3), (4, .int v4), (5, .int v5), (6, .int v6), (7, .int v7)] dX11_layOnes_246 (Nat.le_of_ble_eq_true rfl) rfl ?_
        refine s_iload (pc := 248) 5 dX11_layOnes_248 rfl ?_
        refine s_iload (pc := 250) 0 dX11_layOnes_250 rfl ?_
        refine s_iand (pc := 252) dX11_layOnes_252 ?_
        refine s_if_ne (pc := 253) 340 dX11_layOnes_253 rfl ?_ ?_
        · refine s_aload_n (pc := 256) 1 dX11_layOnes_256 rfl rfl ?_
          refine s_aload_n (pc := 257) 1 dX11_layOnes_257 rfl rfl ?_
          refine s_getR (pc := 258) 102 dX11_layOnes_258 (fi_X11_57 hG) kd_1 rfl ?_
          refine s_iload (pc := 261) 8 dX11_layOnes_261 rfl ?_
          refine s_iald (pc := 263) 6 dX11_layOnes_263 kd_102 ln_102 ?_
          refine s_aload_n (pc := 264) 1 dX11_layOnes_264 rfl rfl ?_
          refine s_getR (pc := 265) 103 dX11_layOnes_265 (fi_X11_60 hG) kd_1 rfl ?_
          refine s_iload (pc := 268) 6 dX11_layOnes_268 rfl ?_
          refine s_iald (pc := 270) 12 dX11_layOnes_270 kd_103 ln_103 ?_
          refine s_callV (k := 0) (n := 0) (pc := 271) [.int (P.1 102 v7.toNatClampNeg), .int (P.1 103 v5.toNatClampNeg)] (fun x271 => .int x271 :: []) (fun _ => P) dX11_layOnes_271 (cV_X11_287 hG) (Nat.le_of_ble_eq_true rfl) rfl kd_1 (Mo_isAt_ok hG (P.1 102 v7.toNatClampNeg) (P.1 103 v5.toNatClampNeg) P) rfl (fun _ => rfl) (fun _ => rfl) (Nat.le_of_ble_eq_true rfl) rfl rfl (fun x271 => ?_)
          refine s_if_eq (pc := 274) 340 dX11_layOnes_274 rfl ?_ ?_
          · refine s_iinc (pc := 340) 8 1 [(7, .int (v7 + 1)), (8, .int u8_246), (0, .ref (gA G 1)), (1, .int v1), (2, .int v2), (3, .int v3), (4, .int v4), (5, .int v5), (6, .int v6)] dX11_layOnes_340 rfl rfl (Nat.le_of_ble_eq_true rfl) rfl ?_
            refine s_goto (pc := 343) 219 dX11_layOnes_343 rfl ?_
            refine s_sub [2, 3, 4, 5, 6, 7, 8, 0] rfl ?_
            exact ih (v7 + 1) P
          · refine s_aload_n (pc := 277) 1 dX11_layOnes_277 rfl rfl ?_
            refine s_iload (pc := 278) 5 dX11_layOnes_278 rfl ?_
            refine s_iload (pc := 280) 0 dX11_layOnes_280 rfl ?_
            refine s_ior (pc := 282) dX11_layOnes_282 ?_
            refine s_aload_n (pc := 283) 1 dX11_layOnes_283 rfl rfl ?_
            refine s_aload_n (pc := 284) 1 dX11_layOnes_284 rfl rfl ?_
            refine s_aload_n (pc := 285) 1 dX11_layOnes_285 rfl rfl ?_
            refine s_getR (pc := 286) 102 dX11_layOnes_286 (fi_X11_57 hG) kd_1 rfl ?_
            refine s_iload (pc := 289) 8 dX11_layOnes_289 rfl ?_
            refine s_iald (pc := 291) 6 dX11_layOnes_291 kd_102 ln_102 ?_
            refine s_callV (k := 0) (n := 0) (pc := 292) [.int (P.1 102 v7.toNatClampNeg)] (fun x292 => .int x292 :: [.ref (gA G 1), .int (v4 ||| u8_246), .ref (gA G 1)]) (fun _ => P) dX11_layOnes_292 (cV_X11_261 hG) (Nat.le_of_ble_eq_true rfl) rfl kd_1 (Mo_from_ok hG (P.1 102 v7.toNatClampNeg) P) rfl (fun _ => rfl) (fun _ => rfl) (Nat.le_of_ble_eq_true rfl) rfl rfl (fun x292 => ?_)
            refine s_aload_n (pc := 295) 1 dX11_layOnes_295 rfl rfl ?_
            refine s_getR (pc := 296) 103 dX11_layOnes_296 (fi_X11_60 hG) kd_1 rfl ?_
            refine s_iload (pc := 299) 6 dX11_layOnes_299 rfl ?_
            refine s_iald (pc := 301) 12 dX11_layOnes_301 kd_103 ln_103 ?_
            refine s_icmp_ne (pc := 302) 319 dX11_layOnes_302 rfl ?_ ?_
            · refine s_aload_n (pc := 305) 1 dX11_layOnes_305 rfl rfl ?_
              refine s_aload_n (pc := 306) 1 dX11_layOnes_306 rfl rfl ?_
              refine s_getR (pc := 307) 102 dX11_layOnes_307 (fi_X11_57 hG) kd_1 rfl ?_
              refine s_iload (pc := 310) 8 dX11_layOnes_310 rfl ?_
              refine s_iald (pc := 312) 6 dX11_layOnes_312 kd_102 ln_102 ?_
              refine s_callV (k := 0) (n := 0) (pc := 313) [.int (P.1 102 v7.toNatClampNeg)] (fun x313 => .int x313 :: [.ref (gA G 1), .int (v4 ||| u8_246), .ref (gA G 1)]) (fun _ => P) dX11_layOnes_313 (cV_X11_264 hG) (Nat.le_of_ble_eq_true rfl) rfl kd_1 (Mo_to_ok hG (P.1 102 v7.toNatClampNeg) P) rfl (fun _ => rfl) (fun _ => rfl) (Nat.le_of_ble_eq_true rfl) rfl rfl (fun x313 => ?_)
              refine s_goto (pc := 316) 330 dX11_layOnes_316 rfl ?_
              refine s_sub [1, 2, 3, 4, 5, 6, 7, 8] rfl ?_
              exact Mo_layOnes_330_sem hG v1 v2 v3 v4 v5 v6 v7 x313 (v4 ||| u8_246) P r128 hr128 (Mo_layOnes_219 r128 v1 v2 v3 v4 v5 v6 n) ih
            · refine s_aload_n (pc := 319) 1 dX11_layOnes_319 rfl rfl ?_
              refine s_aload_n (pc := 320) 1 dX11_layOnes_320 rfl rfl ?_
              refine s_getR (pc := 321) 102 dX11_layOnes_321 (fi_X11_57 hG) kd_1 rfl ?_
              refine s_iload (pc := 324) 8 dX11_layOnes_324 rfl ?_
              refine s_iald (pc := 326) 6 dX11_layOnes_326 kd_102 ln_102 ?_
              refine s_callV (k := 0) (n := 0) (pc := 327) [.int (P.1 102 v7.toNatClampNeg)] (fun x327 => .int x327 :: [.ref (gA G 1), .int (v4 ||| u8_246), .ref (gA G 1)]) (fun _ => P) dX11_layOnes_327 (cV_X11_261 hG) (Nat.le_of_ble_eq_true rfl) rfl kd_1 (Mo_from_ok hG (P.1 102 v7.toNatClampNeg) P) rfl (fun _ => rfl) (fun _ => rfl) (Nat.le_of_ble_eq_true rfl) rfl rfl (fun x327 => ?_)
              refine s_sub [1, 2, 3, 4, 5, 6, 7, 8] rfl ?_
              exact Mo_layOnes_330_sem hG v1 v2 v3 v4 v5 v6 v7 x327 (v4 ||| u8_246) P r128 hr128 (Mo_layOnes_219 r128 v1 v2 v3 v4 v5 v6 n) ih
        · refine s_iinc (pc := 340) 8 1 [(7, .int (v7 + 1)), (8, .int u8_246), (0, .ref (gA G 1)), (1, .int v1), (2, .int v2), (3, .int v3), (4, .int v4), (5, .int v5), (6, .int v6)] dX11_layOnes_340 rfl rfl (Nat.le_of_ble_eq_true rfl) rfl ?_
          refine s_goto (pc := 343) 219 dX11_layOnes_343 rfl ?_
          refine s_sub [2, 3, 4, 5, 6, 7, 8, 0] rfl ?_
          exact ih (v7 + 1) P
def Mo_layOnes_128   (v1 : Int32) (v2 : Int32)  : Nat → Int32 → PH → Option (PH)
  | 0 => fun _ _ => none
  | n + 1 => fun v3 P =>
    if (P.1 1 40) ≤ v3 then
      some P
    else
      gdI v3 98304 <|
      (some ((P.1 105 v3.toNatClampNeg) / (24 : Int32))).bind fun (u4_145 : Int32) =>
      gdI v3 98304 <|
      (some (((P.1 105 v3.toNatClampNeg) - (P.1 105 v3.toNatClampNeg) / (24 : Int32) * (24 : Int32)) / (2 : Int32))).bind fun (u5_158 : Int32) =>
      gdI v3 98304 <|
      (some ((P.1 105 v3.toNatClampNeg) - (P.1 105 v3.toNatClampNeg) / (2 : Int32) * (2 : Int32))).bind fun (u6_168 : Int32) =>
      gdI u4_145 4096 <|
      if (P.1 107 u4_145.toNatClampNeg) = 0 then
        if v2 = 0 then
          gdI u5_158 12 <|
          gdI ((248 : Int32) + (P.1 103 u5_158.toNatClampNeg)) 512 <|
          if (P.1 88 ((248 : Int32) + (P.1 103 u5_158.toNatClampNeg)).toNatClampNeg) = (1 : Int32) then
            gdI u4_145 4096 <|
            (some (sI P 107 u4_145.toNatClampNeg (vp_nar .boolean (1 : Int32)))).bind fun (P215 : PH) =>
            Mo_layOnes_219 (Mo_layOnes_128 v1 v2 n) v1 v2 v3 u4_145 u5_158 u6_168 bigN (0 : Int32) P215
          else
            gdI u4_145 4096 <|
            (some (sI P 107 u4_145.toNatClampNeg (vp_nar .boolean (0 : Int32)))).bind fun (P215 : PH) =>
            Mo_layOnes_219 (Mo_layOnes_128 v1 v2 n) v1 v2 v3 u4_145 u5_158 u6_168 bigN (0 : Int32) P215
        else
          gdI u4_145 4096 <|
          (some (sI P 107 u4_145.toNatClampNeg (vp_nar .boolean (1 : Int32)))).bind fun (P215 : PH) =>
          Mo_layOnes_219 (Mo_layOnes_128 v1 v2 n) v1 v2 v3 u4_145 u5_158 u6_168 bigN (0 : Int32) P215
      else
        gdI u4_145 4096 <|
        (some (sI P 107 u4_145.toNatClampNeg (vp_nar .boolean (1 : Int32)))).bind fun (P215 : PH) =>
        Mo_layOnes_219 (Mo_layOnes_128 v1 v2 n) v1 v2 v3 u4_145 u5_158 u6_168 bigN (0 : Int32) P215
set_option maxRecDepth 100000 in
set_option maxHeartbeats 4000000 in
theorem Mo_layOnes_128_sem {G : GT} {l : Launch} (hG : GOK G l)  (v1 : Int32) (v2 : Int32)    : ∀ (n : Nat) (v3 : Int32) (P : PH), Sem G l miX11_layOnes 0 0 (rn tVH) 128 [(0, .ref (gA G 1)), (1, .int v1), (2, .int v2), (3, .int v3)] [] P (Mo_layOnes_128 v1 v2 n v3 P) := by
  intro n
  induction n with
  | zero => intro v3 P; exact s_none rfl
  | succ n ih =>
    intro v3 P
    rw [Mo_layOnes_128]
    refine s_iload_n (pc := 128) 3 dX11_layOnes_128 rfl rfl ?_
    refine s_aload_n (pc := 129) 0 dX11_layOnes_129 rfl rfl ?_
    refine s_getI (pc := 130) dX11_layOnes_130 (fi_X11_401 hG) kd_1 ?_
    refine s_icmp_ge (pc := 133) 352 dX11_layOnes_133 rfl ?_ ?_
    · exact s_vret (pc := 352) dX11_layOnes_352 rfl rfl
    · refine s_aload_n (pc := 136) 0 dX11_layOnes_136 rfl rfl ?_
      refine s_getR (pc := 137) 105 dX11_layOnes_137 (fi_X11_67 hG) kd_1 rfl ?_
      refine s_iload_n (pc := 140) 3 dX11_layOnes_140 rfl rfl ?_
      refine s_iald (pc := 141) 98304 dX11_layOnes_141 kd_105 ln_105 ?_
      refine s_bipush (pc := 142) (v := 24) dX11_layOnes_142 rfl ?_
      refine s_idiv (pc := 144) dX11_layOnes_144 (by decide) ?_
      refine s_letI (fun u4_145 => ?_)
      refine s_istore (pc := 145) [(4, .int u4_145), (0, .ref (gA G 1)), (1, .int v1), (2, .int v2), (3, .int v3)] dX11_layOnes_145 (Nat.le_of_ble_eq_true rfl) rfl ?_
      refine s_aload_n (pc := 147) 1 dX11_layOnes_147 rfl rfl ?_
      refine s_getR (pc := 148) 105 dX11_layOnes_148 (fi_X11_67 hG) kd_1 rfl ?_
      refine s_iload_n (pc := 151) 4 dX11_layOnes_151 rfl rfl ?_
      refine s_iald (pc := 152) 98304 dX11_layOnes_152 kd_105 ln_105 ?_
      refine s_bipush (pc := 153) (v := 24) dX11_layOnes_153 rfl ?_
      refine s_irem (pc := 155) dX11_layOnes_155 (by decide) ?_
      refine s_iconst (pc := 156) (v := 2) dX11_layOnes_156 rfl ?_
      refine s_idiv (pc := 157) dX11_layOnes_157 (by decide) ?_
      refine s_letI (fun u5_158 => ?_)
      refine s_istore (pc := 158) [(5, .int u5_158), (4, .int u4_145), (0, .ref (gA G 1)), (1, .int v1), (2, .int v2), (3, .int v3)] dX11_layOnes_158 (Nat.le_of_ble_eq_true rfl) rfl ?_
      refine s_aload_n (pc := 160) 2 dX11_layOnes_160 rfl rfl ?_
      refine s_getR (pc := 161) 105 dX11_layOnes_161 (fi_X11_67 hG) kd_1 rfl ?_
      refine s_iload_n (pc := 164) 5 dX11_layOnes_164 rfl rfl ?_
      refine s_iald (pc := 165) 98304 dX11_layOnes_165 kd_105 ln_105 ?_
      refine s_iconst (pc := 166) (v := 2) dX11_layOnes_166 rfl ?_
      refine s_irem (pc := 167) dX11_layOnes_167 (by decide) ?_
      refine s_letI (fun u6_168 => ?_)
      refine s_istore (pc := 168) [(6, .int u6_168), (5, .int u5_158), (4, .int u4_145), (0, .ref (gA G 1)), (1, .int v1), (2, .int v2), (3, .int v3)] dX11_layOnes_168 (Nat.le_of_ble_eq_true rfl) rfl ?_
      refine s_aload_n (pc := 170) 3 dX11_layOnes_170 rfl rfl ?_
      refine s_getR (pc := 171) 107 dX11_layOnes_171 (fi_X11_73 hG) kd_1 rfl ?_
      refine s_iload (pc := 174) 2 dX11_layOnes_174 rfl ?_
      refine s_aload_n (pc := 176) 3 dX11_layOnes_176 rfl rfl ?_
      refine s_getR (pc := 177) 107 dX11_layOnes_177 (fi_X11_73 hG) kd_1 rfl ?_
      refine s_iload (pc := 180) 2 dX11_layOnes_180 rfl ?_
      refine s_zald (pc := 182) 4096 dX11_layOnes_182 kd_107 ln_107 ?_
      refine s_if_ne (pc := 183) 210 dX11_layOnes_183 rfl ?_ ?_
      · refine s_iload_n (pc := 186) 5 dX11_layOnes_186 rfl rfl ?_
        refine s_if_ne (pc := 187) 210 dX11_layOnes_187 rfl ?_ ?_
        · refine s_aload_n (pc := 190) 3 dX11_layOnes_190 rfl rfl ?_
          refine s_getR (pc := 191) 88 dX11_layOnes_191 (fi_X11_9 hG) kd_1 rfl ?_
          refine s_sipush (pc := 194) (v := 248) dX11_layOnes_194 rfl ?_
          refine s_aload_n (pc := 197) 3 dX11_layOnes_197 rfl rfl ?_
          refine s_getR (pc := 198) 103 dX11_layOnes_198 (fi_X11_60 hG) kd_1 rfl ?_
          refine s_iload (pc := 201) 1 dX11_layOnes_201 rfl ?_
          refine s_iald (pc := 203) 12 dX11_layOnes_203 kd_103 ln_103 ?_
          refine s_iadd (pc := 204) dX11_layOnes_204 ?_
          refine s_iald (pc := 205) 512 dX11_layOnes_205 kd_88 ln_88 ?_
          refine s_iconst (pc := 206) (v := 1) dX11_layOnes_206 rfl ?_
          refine s_icmp_ne (pc := 207) 214 dX11_layOnes_207 rfl ?_ ?_
          · refine s_iconst (pc := 210) (v := 1) dX11_layOnes_210 rfl ?_
            refine s_goto (pc := 211) 215 dX11_layOnes_211 rfl ?_
            refine s_zast (pc := 215) 4096 dX11_layOnes_215 kd_107 ln_107 ?_
            refine s_letP (fun P215 => ?_)
            refine s_iconst (pc := 216) (v := 0) dX11_layOnes_216 rfl ?_
            refine s_istore (pc := 217) [(7, .int ((0 : Int32))), (6, .int u6_168), (5, .int u5_158), (4, .int u4_145), (0, .ref (gA G 1)), (1, .int v1), (2, .int v2), (3, .int v3)] dX11_layOnes_217 (Nat.le_of_ble_eq_true rfl) rfl ?_
            refine s_sub [4, 5, 6, 7, 3, 2, 1, 0] rfl ?_
            exact Mo_layOnes_219_sem hG v1 v2 v3 u4_145 u5_158 u6_168 (Mo_layOnes_128 v1 v2 n) ih bigN (0 : Int32) P215
          · refine s_iconst (pc := 214) (v := 0) dX11_layOnes_214 rfl ?_
            refine s_zast (pc := 215) 4096 dX11_layOnes_215 kd_107 ln_107 ?_
            refine s_letP (fun P215 => ?_)
            refine s_iconst (pc := 216) (v := 0) dX11_layOnes_216 rfl ?_
            refine s_istore (pc := 217) [(7, .int ((0 : Int32))), (6, .int u6_168), (5, .int u5_158), (4, .int u4_145), (0, .ref (gA G 1)), (1, .int v1), (2, .int v2), (3, .int v3)] dX11_layOnes_217 (Nat.le_of_ble_eq_true rfl) rfl ?_
            refine s_sub [4, 5, 6, 7, 3, 2, 1, 0] rfl ?_
            exact Mo_layOnes_219_sem hG v1 v2 v3 u4_145 u5_158 u6_168 (Mo_layOnes_128 v1 v2 n) ih bigN (0 : Int32) P215
        · refine s_iconst (pc := 210) (v := 1) dX11_layOnes_210 rfl ?_
          refine s_goto (pc := 211) 215 dX11_layOnes_211 rfl ?_
          refine s_zast (pc := 215) 4096 dX11_layOnes_215 kd_107 ln_107 ?_
          refine s_letP (fun P215 => ?_)
          refine s_iconst (pc := 216) (v := 0) dX11_layOnes_216 rfl ?_
          refine s_istore (pc := 217) [(7, .int ((0 : Int32))), (6, .int u6_168), (5, .int u5_158), (4, .int u4_145), (0, .ref (gA G 1)), (1, .int v1), (2, .int v2), (3, .int v3)] dX11_layOnes_217 (Nat.le_of_ble_eq_true rfl) rfl ?_
          refine s_sub [4, 5, 6, 7, 3, 2, 1, 0] rfl ?_
          exact Mo_layOnes_219_sem hG v1 v2 v3 u4_145 u5_158 u6_168 (Mo_layOnes_128 v1 v2 n) ih bigN (0 : Int32) P215
      · refine s_iconst (pc := 210) (v := 1) dX11_layOnes_210 rfl ?_
        refine s_goto (pc := 211) 215 dX11_layOnes_211 rfl ?_
        refine s_zast (pc := 215) 4096 dX11_layOnes_215 kd_107 ln_107 ?_
        refine s_letP (fun P215 => ?_)
        refine s_iconst (pc := 216) (v := 0) dX11_layOnes_216 rfl ?_
        refine s_istore (pc := 217) [(7, .int ((0 : Int32))), (6, .int u6_168), (5, .int u5_158), (4, .int u4_145), (0, .ref (gA G 1)), (1, .int v1), (2, .int v2), (3, .int v3)] dX11_layOnes_217 (Nat.le_of_ble_eq_true rfl) rfl ?_
        refine s_sub [4, 5, 6, 7, 3, 2, 1, 0] rfl ?_
        exact Mo_layOnes_219_sem hG v1 v2 v3 u4_145 u5_158 u6_168 (Mo_layOnes_128 v1 v2 n) ih bigN (0 : Int32) P215
def Mo_layOnes_106  (r66 : Int32 → PH → Option (PH)) (r77 : Int32 → PH → Option (PH)) (v1 : Int32) (v2 : Int32) (v3 : Int32) (v4 : Int32) (P : PH) : Option (PH) :=
  (Mo_sees (0 : Int32) v3 v4 P).bind fun (x111 : PH) =>
  r77 (v4 + 1) x111
set_option maxRecDepth 100000 in
set_option maxHeartbeats 4000000 in
theorem Mo_layOnes_106_sem {G : GT} {l : Launch} (hG : GOK G l)  (v1 : Int32) (v2 : Int32) (v3 : Int32) (v4 : Int32) (P : PH)  (r66 : Int32 → PH → Option (PH)) (hr66 : ∀ (v3 : Int32) (P : PH), Sem G l miX11_layOnes 0 0 (rn tVH) 66 [(0, .ref (gA G 1)), (1, .int v1), (2, .int v2), (3, .int v3)] [] P (r66 v3 P)) (r77 : Int32 → PH → Option (PH)) (hr77 : ∀ (v4 : Int32) (P : PH), Sem G l miX11_layOnes 0 0 (rn tVH) 77 [(0, .ref (gA G 1)), (1, .int v1), (2, .int v2), (3, .int v3), (4, .int v4)] [] P (r77 v4 P)) : Sem G l miX11_layOnes 0 0 (rn tVH) 106 [(0, .ref (gA G 1)), (1, .int v1), (2, .int v2), (3, .int v3), (4, .int v4)] [] P (Mo_layOnes_106 r66 r77 v1 v2 v3 v4 P) := by
  unfold Mo_layOnes_106
  refine s_aload_n (pc := 106) 0 dX11_layOnes_106 rfl rfl ?_
  refine s_iconst (pc := 107) (v := 0) dX11_layOnes_107 rfl ?_
  refine s_iload_n (pc := 108) 3 dX11_layOnes_108 rfl rfl ?_
  refine s_iload (pc := 109) 4 dX11_layOnes_109 rfl ?_
  refine s_callV (k := 0) (n := 0) (pc := 111) [.int ((0 : Int32)), .int v3, .int v4] (fun _ => []) (fun x111 => x111) dX11_layOnes_111 (cV_X11_407 hG) (Nat.le_of_ble_eq_true rfl) rfl kd_1 (Mo_sees_ok hG (0 : Int32) v3 v4 P) rfl (fun _ => rfl) (fun _ => rfl) (Nat.le_of_ble_eq_true rfl) rfl rfl (fun x111 => ?_)
  refine s_iinc (pc := 114) 4 1 [(4, .int (v4 + 1)), (0, .ref (gA G 1)), (1, .int v1), (2, .int v2), (3, .int v3)] dX11_layOnes_114 rfl rfl (Nat.le_of_ble_eq_true rfl) rfl ?_
  refine s_goto (pc := 117) 77 dX11_layOnes_117 rfl ?_
  refine s_sub [1, 2, 3, 4, 0] rfl ?_
  exact hr77 (v4 + 1) x111
def Mo_layOnes_77  (r66 : Int32 → PH → Option (PH)) (v1 : Int32) (v2 : Int32) (v3 : Int32)  : Nat → Int32 → PH → Option (PH)
  | 0 => fun _ _ => none
  | n + 1 => fun v4 P =>
    if (2 : Int32) ≤ v4 then
      r66 (v3 + 1) P
    else
      if v2 = 0 then
        gdI v3 12 <|
        gdI ((248 : Int32) + (P.1 103 v3.toNatClampNeg)) 512 <|
        if (P.1 88 ((248 : Int32) + (P.1 103 v3.toNatClampNeg)).toNatClampNeg) = (1 : Int32) then
          Mo_layOnes_106 r66 (Mo_layOnes_77 r66 v1 v2 v3 n) v1 v2 v3 v4 P
        else
          r66 (v3 + 1) P
      else
        Mo_layOnes_106 r66 (Mo_layOnes_77 r66 v1 v2 v3 n) v1 v2 v3 v4 P
set_option maxRecDepth 100000 in
set_option maxHeartbeats 4000000 in
theorem Mo_layOnes_77_sem {G : GT} {l : Launch} (hG : GOK G l)  (v1 : Int32) (v2 : Int32) (v3 : Int32)   (r66 : Int32 → PH → Option (PH)) (hr66 : ∀ (v3 : Int32) (P : PH), Sem G l miX11_layOnes 0 0 (rn tVH) 66 [(0, .ref (gA G 1)), (1, .int v1), (2, .int v2), (3, .int v3)] [] P (r66 v3 P)) : ∀ (n : Nat) (v4 : Int32) (P : PH), Sem G l miX11_layOnes 0 0 (rn tVH) 77 [(0, .ref (gA G 1)), (1, .int v1), (2, .int v2), (3, .int v3), (4, .int v4)] [] P (Mo_layOnes_77 r66 v1 v2 v3 n v4 P) := by
  intro n
  induction n with
  | zero => intro v4 P; exact s_none rfl
  | succ n ih =>
    intro v4 P
    rw [Mo_layOnes_77]
    refine s_iload (pc := 77) 4 dX11_layOnes_77 rfl ?_
    refine s_iconst (pc := 79) (v := 2) dX11_layOnes_79 rfl ?_
    refine s_icmp_ge (pc := 80) 120 dX11_layOnes_80 rfl ?_ ?_
    · refine s_iinc (pc := 120) 3 1 [(3, .int (v3 + 1)), (0, .ref (gA G 1)), (1, .int v1), (2, .int v2), (4, .int v4)] dX11_layOnes_120 rfl rfl (Nat.le_of_ble_eq_true rfl) rfl ?_
      refine s_goto (pc := 123) 66 dX11_layOnes_123 rfl ?_
      refine s_sub [1, 2, 3, 0] rfl ?_
      exact hr66 (v3 + 1) P
    · refine s_iload_n (pc := 83) 2 dX11_layOnes_83 rfl rfl ?_
      refine s_if_ne (pc := 84) 106 dX11_layOnes_84 rfl ?_ ?_
      · refine s_aload_n (pc := 87) 0 dX11_layOnes_87 rfl rfl ?_
        refine s_getR (pc := 88) 88 dX11_layOnes_88 (fi_X11_9 hG) kd_1 rfl ?_
        refine s_sipush (pc := 91) (v := 248) dX11_layOnes_91 rfl ?_
        refine s_aload_n (pc := 94) 0 dX11_layOnes_94 rfl rfl ?_
        refine s_getR (pc := 95) 103 dX11_layOnes_95 (fi_X11_60 hG) kd_1 rfl ?_
        refine s_iload_n (pc := 98) 3 dX11_layOnes_98 rfl rfl ?_
        refine s_iald (pc := 99) 12 dX11_layOnes_99 kd_103 ln_103 ?_
        refine s_iadd (pc := 100) dX11_layOnes_100 ?_
        refine s_iald (pc := 101) 512 dX11_layOnes_101 kd_88 ln_88 ?_
        refine s_iconst (pc := 102) (v := 1) dX11_layOnes_102 rfl ?_
        refine s_icmp_ne (pc := 103) 120 dX11_layOnes_103 rfl ?_ ?_
        · exact Mo_layOnes_106_sem hG v1 v2 v3 v4 P r66 hr66 (Mo_layOnes_77 r66 v1 v2 v3 n) ih
        · refine s_iinc (pc := 120) 3 1 [(3, .int (v3 + 1)), (0, .ref (gA G 1)), (1, .int v1), (2, .int v2), (4, .int v4)] dX11_layOnes_120 rfl rfl (Nat.le_of_ble_eq_true rfl) rfl ?_
          refine s_goto (pc := 123) 66 dX11_layOnes_123 rfl ?_
          refine s_sub [1, 2, 3, 0] rfl ?_
          exact hr66 (v3 + 1) P
      · exact Mo_layOnes_106_sem hG v1 v2 v3 v4 P r66 hr66 (Mo_layOnes_77 r66 v1 v2 v3 n) ih
def Mo_layOnes_66   (v1 : Int32) (v2 : Int32)  : Nat → Int32 → PH → Option (PH)
  | 0 => fun _ _ => none
  | n + 1 => fun v3 P =>
    if (P.1 1 39) ≤ v3 then
      Mo_layOnes_128 v1 v2 bigN (0 : Int32) P
    else
      Mo_layOnes_77 (Mo_layOnes_66 v1 v2 n) v1 v2 v3 bigN (0 : Int32) P
set_option maxRecDepth 100000 in
set_option maxHeartbeats 4000000 in
theorem Mo_layOnes_66_sem {G : GT} {l : Launch} (hG : GOK G l)  (v1 : Int32) (v2 : Int32)    : ∀ (n : Nat) (v3 : Int32) (P : PH), Sem G l miX11_layOnes 0 0 (rn tVH) 66 [(0, .ref (gA G 1)), (1, .int v1), (2, .int v2), (3, .int v3)] [] P (Mo_layOnes_66 v1 v2 n v3 P) := by
  intro n
  induction n with
  | zero => intro v3 P; exact s_none rfl
  | succ n ih =>
    intro v3 P
    rw [Mo_layOnes_66]
    refine s_iload_n (pc := 66) 3 dX11_layOnes_66 rfl rfl ?_
    refine s_aload_n (pc := 67) 0 dX11_layOnes_67 rfl rfl ?_
    refine s_getI (pc := 68) dX11_layOnes_68 (fi_X11_398 hG) kd_1 ?_
    refine s_icmp_ge (pc := 71) 126 dX11_layOnes_71 rfl ?_ ?_
    · refine s_iconst (pc := 126) (v := 0) dX11_layOnes_126 rfl ?_
      refine s_istore_n (pc := 127) [(3, .int ((0 : Int32))), (0, .ref (gA G 1)), (1, .int v1), (2, .int v2)] dX11_layOnes_127 rfl (Nat.le_of_ble_eq_true rfl) rfl ?_
      refine s_sub [1, 2, 3, 0] rfl ?_
      exact Mo_layOnes_128_sem hG v1 v2 bigN (0 : Int32) P
    · refine s_iconst (pc := 74) (v := 0) dX11_layOnes_74 rfl ?_
      refine s_istore (pc := 75) [(4, .int ((0 : Int32))), (0, .ref (gA G 1)), (1, .int v1), (2, .int v2), (3, .int v3)] dX11_layOnes_75 (Nat.le_of_ble_eq_true rfl) rfl ?_
      refine s_sub [1, 2, 3, 4, 0] rfl ?_
      exact Mo_layOnes_77_sem hG v1 v2 v3 (Mo_layOnes_66 v1 v2 n) ih bigN (0 : Int32) P
def Mo_layOnes_39   (v1 : Int32) (v2 : Int32)  : Nat → Int32 → PH → Option (PH)
  | 0 => fun _ _ => none
  | n + 1 => fun v3 P =>
    if (4096 : Int32) ≤ v3 then
      (some (sI P 1 40 (0 : Int32))).bind fun (P61 : PH) =>
      Mo_layOnes_66 v1 v2 bigN (0 : Int32) P61
    else
      gdI v3 4096 <|
      (some (sI P 107 v3.toNatClampNeg (vp_nar .boolean (0 : Int32)))).bind fun (P52 : PH) =>
      Mo_layOnes_39 v1 v2 n (v3 + 1) P52
set_option maxRecDepth 100000 in
set_option maxHeartbeats 4000000 in
theorem Mo_layOnes_39_sem {G : GT} {l : Launch} (hG : GOK G l)  (v1 : Int32) (v2 : Int32)    : ∀ (n : Nat) (v3 : Int32) (P : PH), Sem G l miX11_layOnes 0 0 (rn tVH) 39 [(0, .ref (gA G 1)), (1, .int v1), (2, .int v2), (3, .int v3)] [] P (Mo_layOnes_39 v1 v2 n v3 P) := by
  intro n
  induction n with
  | zero => intro v3 P; exact s_none rfl
  | succ n ih =>
    intro v3 P
    rw [Mo_layOnes_39]
    refine s_iload_n (pc := 39) 3 dX11_layOnes_39 rfl rfl ?_
    refine s_sipush (pc := 40) (v := 4096) dX11_layOnes_40 rfl ?_
    refine s_icmp_ge (pc := 43) 59 dX11_layOnes_43 rfl ?_ ?_
    · refine s_aload_n (pc := 59) 0 dX11_layOnes_59 rfl rfl ?_
      refine s_iconst (pc := 60) (v := 0) dX11_layOnes_60 rfl ?_
      refine s_putI (pc := 61) dX11_layOnes_61 (fp_X11_401 hG) kd_1 ?_
      refine s_letP (fun P61 => ?_)
      refine s_iconst (pc := 64) (v := 0) dX11_layOnes_64 rfl ?_
      refine s_istore_n (pc := 65) [(3, .int ((0 : Int32))), (0, .ref (gA G 1)), (1, .int v1), (2, .int v2)] dX11_layOnes_65 rfl (Nat.le_of_ble_eq_true rfl) rfl ?_
      refine s_sub [1, 2, 3, 0] rfl ?_
      exact Mo_layOnes_66_sem hG v1 v2 bigN (0 : Int32) P61
    · refine s_aload_n (pc := 46) 0 dX11_layOnes_46 rfl rfl ?_
      refine s_getR (pc := 47) 107 dX11_layOnes_47 (fi_X11_73 hG) kd_1 rfl ?_
      refine s_iload_n (pc := 50) 3 dX11_layOnes_50 rfl rfl ?_
      refine s_iconst (pc := 51) (v := 0) dX11_layOnes_51 rfl ?_
      refine s_zast (pc := 52) 4096 dX11_layOnes_52 kd_107 ln_107 ?_
      refine s_letP (fun P52 => ?_)
      refine s_iinc (pc := 53) 3 1 [(3, .int (v3 + 1)), (0, .ref (gA G 1)), (1, .int v1), (2, .int v2)] dX11_layOnes_53 rfl rfl (Nat.le_of_ble_eq_true rfl) rfl ?_
      refine s_goto (pc := 56) 39 dX11_layOnes_56 rfl ?_
      refine s_sub [1, 2, 3, 0] rfl ?_
      exact ih (v3 + 1) P52
def Mo_layOnes_15   (v1 : Int32) (v2 : Int32)  : Nat → Int32 → PH → Option (PH)
  | 0 => fun _ _ => none
  | n + 1 => fun v3 P =>
    if (98304 : Int32) ≤ v3 then
      Mo_layOnes_39 v1 v2 bigN (0 : Int32) P
    else
      gdI v3 98304 <|
      (some (sI P 106 v3.toNatClampNeg (vp_nar .boolean (0 : Int32)))).bind fun (P30 : PH) =>
      Mo_layOnes_15 v1 v2 n (v3 + 1) P30
set_option maxRecDepth 100000 in
set_option maxHeartbeats 4000000 in
theorem Mo_layOnes_15_sem {G : GT} {l : Launch} (hG : GOK G l)  (v1 : Int32) (v2 : Int32)    : ∀ (n : Nat) (v3 : Int32) (P : PH), Sem G l miX11_layOnes 0 0 (rn tVH) 15 [(0, .ref (gA G 1)), (1, .int v1), (2, .int v2), (3, .int v3)] [] P (Mo_layOnes_15 v1 v2 n v3 P) := by
  intro n
  induction n with
  | zero => intro v3 P; exact s_none rfl
  | succ n ih =>
    intro v3 P
    rw [Mo_layOnes_15]
    refine s_iload_n (pc := 15) 3 dX11_layOnes_15 rfl rfl ?_
    refine s_aload_n (pc := 16) 0 dX11_layOnes_16 rfl rfl ?_
    refine s_getR (pc := 17) 106 dX11_layOnes_17 (fi_X11_70 hG) kd_1 rfl ?_
    refine s_alen (pc := 20) (t := 3) 98304 98304 dX11_layOnes_20 kd_106 (Nat.le_of_ble_eq_true rfl) ln_106 rfl ?_
    refine s_icmp_ge (pc := 21) 37 dX11_layOnes_21 rfl ?_ ?_
    · refine s_iconst (pc := 37) (v := 0) dX11_layOnes_37 rfl ?_
      refine s_istore_n (pc := 38) [(3, .int ((0 : Int32))), (0, .ref (gA G 1)), (1, .int v1), (2, .int v2)] dX11_layOnes_38 rfl (Nat.le_of_ble_eq_true rfl) rfl ?_
      refine s_sub [1, 2, 3, 0] rfl ?_
      exact Mo_layOnes_39_sem hG v1 v2 bigN (0 : Int32) P
    · refine s_aload_n (pc := 24) 0 dX11_layOnes_24 rfl rfl ?_
      refine s_getR (pc := 25) 106 dX11_layOnes_25 (fi_X11_70 hG) kd_1 rfl ?_
      refine s_iload_n (pc := 28) 3 dX11_layOnes_28 rfl rfl ?_
      refine s_iconst (pc := 29) (v := 0) dX11_layOnes_29 rfl ?_
      refine s_zast (pc := 30) 98304 dX11_layOnes_30 kd_106 ln_106 ?_
      refine s_letP (fun P30 => ?_)
      refine s_iinc (pc := 31) 3 1 [(3, .int (v3 + 1)), (0, .ref (gA G 1)), (1, .int v1), (2, .int v2)] dX11_layOnes_31 rfl rfl (Nat.le_of_ble_eq_true rfl) rfl ?_
      refine s_goto (pc := 34) 15 dX11_layOnes_34 rfl ?_
      refine s_sub [1, 2, 3, 0] rfl ?_
      exact ih (v3 + 1) P30
def Mo_layOnes  (v1 : Int32) (P : PH) : Option (PH) :=
  (Mo_knots P).bind fun (x1 : Int32) =>
  if x1 = 0 then
    Mo_layOnes_15 v1 (1 : Int32) bigN (0 : Int32) P
  else
    Mo_layOnes_15 v1 (0 : Int32) bigN (0 : Int32) P
set_option maxRecDepth 100000 in
set_option maxHeartbeats 4000000 in
theorem Mo_layOnes_ok {G : GT} {l : Launch} (hG : GOK G l)  (v1 : Int32) (P : PH) : OkN G l yX11_layOnes miX11_layOnes 0 0 tVH [.ref (gA G 1), .int v1] P (Mo_layOnes v1 P) := by
  refine okN_of hG _ [(0, .ref (gA G 1)), (1, .int v1)] rfl rfl rfl (Nat.le_of_ble_eq_true rfl) rfl ?_
  unfold Mo_layOnes
  refine s_aload_n (pc := 0) 0 dX11_layOnes_0 rfl rfl ?_
  refine s_callV (k := 0) (n := 0) (pc := 1) [] (fun x1 => .int x1 :: []) (fun _ => P) dX11_layOnes_1 (cV_X11_404 hG) (Nat.le_of_ble_eq_true rfl) rfl kd_1 (Mo_knots_ok hG P) rfl (fun _ => rfl) (fun _ => rfl) (Nat.le_of_ble_eq_true rfl) rfl rfl (fun x1 => ?_)
  refine s_if_ne (pc := 4) 11 dX11_layOnes_4 rfl ?_ ?_
  · refine s_iconst (pc := 7) (v := 1) dX11_layOnes_7 rfl ?_
    refine s_goto (pc := 8) 12 dX11_layOnes_8 rfl ?_
    refine s_istore_n (pc := 12) [(2, .int ((1 : Int32))), (0, .ref (gA G 1)), (1, .int v1)] dX11_layOnes_12 rfl (Nat.le_of_ble_eq_true rfl) rfl ?_
    refine s_iconst (pc := 13) (v := 0) dX11_layOnes_13 rfl ?_
    refine s_istore_n (pc := 14) [(3, .int ((0 : Int32))), (2, .int ((1 : Int32))), (0, .ref (gA G 1)), (1, .int v1)] dX11_layOnes_14 rfl (Nat.le_of_ble_eq_true rfl) rfl ?_
    refine s_sub [2, 3, 1, 0] rfl ?_
    exact Mo_layOnes_15_sem hG v1 (1 : Int32) bigN (0 : Int32) P
  · refine s_iconst (pc := 11) (v := 0) dX11_layOnes_11 rfl ?_
    refine s_istore_n (pc := 12) [(2, .int ((0 : Int32))), (0, .ref (gA G 1)), (1, .int v1)] dX11_layOnes_12 rfl (Nat.le_of_ble_eq_true rfl) rfl ?_
    refine s_iconst (pc := 13) (v := 0) dX11_layOnes_13 rfl ?_
    refine s_istore_n (pc := 14) [(3, .int ((0 : Int32))), (2, .int ((0 : Int32))), (0, .ref (gA G 1)), (1, .int v1)] dX11_layOnes_14 rfl (Nat.le_of_ble_eq_true rfl) rfl ?_
    refine s_sub [2, 3, 1, 0] rfl ?_
    exact Mo_layOnes_15_sem hG v1 (0 : Int32) bigN (0 : Int32) P
def Mo_threads_239   (v3 : Int32) (P : PH) : Option (Int32 × PH) :=
  gdI v3 4096 <|
  if (P.1 104 v3.toNatClampNeg) < (1000 : Int32) then
    gdI v3 4096 <|
    some (P.1 104 v3.toNatClampNeg, P)
  else
    some ((-1 : Int32), P)
set_option maxRecDepth 100000 in
set_option maxHeartbeats 4000000 in
theorem Mo_threads_239_sem {G : GT} {l : Launch} (hG : GOK G l)  (v3 : Int32) (P : PH)   : Sem G l miX11_threads 0 0 (rn tIH) 239 [(0, .ref (gA G 1)), (3, .int v3)] [] P (Mo_threads_239 v3 P) := by
  unfold Mo_threads_239
  refine s_aload_n (pc := 239) 0 dX11_threads_239 rfl rfl ?_
  refine s_getR (pc := 240) 104 dX11_threads_240 (fi_X11_63 hG) kd_1 rfl ?_
  refine s_iload_n (pc := 243) 1 dX11_threads_243 rfl rfl ?_
  refine s_iald (pc := 244) 4096 dX11_threads_244 kd_104 ln_104 ?_
  refine s_sipush (pc := 245) (v := 1000) dX11_threads_245 rfl ?_
  refine s_icmp_lt (pc := 248) 255 dX11_threads_248 rfl ?_ ?_
  · refine s_aload_n (pc := 255) 0 dX11_threads_255 rfl rfl ?_
    refine s_getR (pc := 256) 104 dX11_threads_256 (fi_X11_63 hG) kd_1 rfl ?_
    refine s_iload_n (pc := 259) 1 dX11_threads_259 rfl rfl ?_
    refine s_iald (pc := 260) 4096 dX11_threads_260 kd_104 ln_104 ?_
    exact s_iret (pc := 261) dX11_threads_261 rfl rfl
  · refine s_iconst (pc := 251) (v := -1) dX11_threads_251 rfl ?_
    refine s_goto (pc := 252) 261 dX11_threads_252 rfl ?_
    exact s_iret (pc := 261) dX11_threads_261 rfl rfl
def Mo_threads_175  (r155 : Int32 → PH → Option (Int32 × PH)) (v3 : Int32) (v4 : Int32)  : Nat → Int32 → PH → Option (Int32 × PH)
  | 0 => fun _ _ => none
  | n + 1 => fun v5 P =>
    if v5 ≤ 0 then
      r155 (v4 + 1) P
    else
      gdI v5 4096 <|
      if (P.1 107 v5.toNatClampNeg) = 0 then
        (some ((v5 - (1 : Int32)) &&& v4)).bind fun (u5_228 : Int32) =>
        Mo_threads_175 r155 v3 v4 n u5_228 P
      else
        gdI v4 4096 <|
        gdI (v4 &&& (v5 ^^^ (-1 : Int32))) 4096 <|
        gdI v4 4096 <|
        (some (sI P 104 v4.toNatClampNeg (jMin (P.1 104 v4.toNatClampNeg) ((P.1 104 (v4 &&& (v5 ^^^ (-1 : Int32))).toNatClampNeg) + (1 : Int32))))).bind fun (P220 : PH) =>
        (some ((v5 - (1 : Int32)) &&& v4)).bind fun (u5_228 : Int32) =>
        Mo_threads_175 r155 v3 v4 n u5_228 P220
set_option maxRecDepth 100000 in
set_option maxHeartbeats 4000000 in
theorem Mo_threads_175_sem {G : GT} {l : Launch} (hG : GOK G l)  (v3 : Int32) (v4 : Int32)   (r155 : Int32 → PH → Option (Int32 × PH)) (hr155 : ∀ (v4 : Int32) (P : PH), Sem G l miX11_threads 0 0 (rn tIH) 155 [(0, .ref (gA G 1)), (3, .int v3), (4, .int v4)] [] P (r155 v4 P)) : ∀ (n : Nat) (v5 : Int32) (P : PH), Sem G l miX11_threads 0 0 (rn tIH) 175 [(0, .ref (gA G 1)), (3, .int v3), (4, .int v4), (5, .int v5)] [] P (Mo_threads_175 r155 v3 v4 n v5 P) := by
  intro n
  induction n with
  | zero => intro v5 P; exact s_none rfl
  | succ n ih =>
    intro v5 P
    rw [Mo_threads_175]
    refine s_iload (pc := 175) 3 dX11_threads_175 rfl ?_
    refine s_if_le (pc := 177) 233 dX11_threads_177 rfl ?_ ?_
    · refine s_iinc (pc := 233) 2 1 [(4, .int (v4 + 1)), (0, .ref (gA G 1)), (3, .int v3), (5, .int v5)] dX11_threads_233 rfl rfl (Nat.le_of_ble_eq_true rfl) rfl ?_
      refine s_goto (pc := 236) 155 dX11_threads_236 rfl ?_
      refine s_sub [1, 2, 0] rfl ?_
      exact hr155 (v4 + 1) P
    · refine s_aload_n (pc := 180) 0 dX11_threads_180 rfl rfl ?_
      refine s_getR (pc := 181) 107 dX11_threads_181 (fi_X11_73 hG) kd_1 rfl ?_
      refine s_iload (pc := 184) 3 dX11_threads_184 rfl ?_
      refine s_zald (pc := 186) 4096 dX11_threads_186 kd_107 ln_107 ?_
      refine s_if_eq (pc := 187) 221 dX11_threads_187 rfl ?_ ?_
      · refine s_iload (pc := 221) 3 dX11_threads_221 rfl ?_
        refine s_iconst (pc := 223) (v := 1) dX11_threads_223 rfl ?_
        refine s_isub (pc := 224) dX11_threads_224 ?_
        refine s_iload (pc := 225) 2 dX11_threads_225 rfl ?_
        refine s_iand (pc := 227) dX11_threads_227 ?_
        refine s_letI (fun u5_228 => ?_)
        refine s_istore (pc := 228) [(5, .int u5_228), (0, .ref (gA G 1)), (3, .int v3), (4, .int v4)] dX11_threads_228 (Nat.le_of_ble_eq_true rfl) rfl ?_
        refine s_goto (pc := 230) 175 dX11_threads_230 rfl ?_
        refine s_sub [1, 2, 3, 0] rfl ?_
        exact ih u5_228 P
      · refine s_aload_n (pc := 190) 0 dX11_threads_190 rfl rfl ?_
        refine s_getR (pc := 191) 104 dX11_threads_191 (fi_X11_63 hG) kd_1 rfl ?_
        refine s_iload (pc := 194) 2 dX11_threads_194 rfl ?_
        refine s_aload_n (pc := 196) 0 dX11_threads_196 rfl rfl ?_
        refine s_getR (pc := 197) 104 dX11_threads_197 (fi_X11_63 hG) kd_1 rfl ?_
        refine s_iload (pc := 200) 2 dX11_threads_200 rfl ?_
        refine s_iald (pc := 202) 4096 dX11_threads_202 kd_104 ln_104 ?_
        refine s_aload_n (pc := 203) 0 dX11_threads_203 rfl rfl ?_
        refine s_getR (pc := 204) 104 dX11_threads_204 (fi_X11_63 hG) kd_1 rfl ?_
        refine s_iload (pc := 207) 2 dX11_threads_207 rfl ?_
        refine s_iload (pc := 209) 3 dX11_threads_209 rfl ?_
        refine s_iconst (pc := 211) (v := -1) dX11_threads_211 rfl ?_
        refine s_ixor (pc := 212) dX11_threads_212 ?_
        refine s_iand (pc := 213) dX11_threads_213 ?_
        refine s_iald (pc := 214) 4096 dX11_threads_214 kd_104 ln_104 ?_
        refine s_iconst (pc := 215) (v := 1) dX11_threads_215 rfl ?_
        refine s_iadd (pc := 216) dX11_threads_216 ?_
        refine s_mmin (pc := 217) dX11_threads_217 (mk_X11_300 hG) (Nat.le_of_ble_eq_true rfl) (Nat.le_of_ble_eq_true rfl) ?_
        refine s_iast (pc := 220) 4096 dX11_threads_220 kd_104 ln_104 ?_
        refine s_letP (fun P220 => ?_)
        refine s_iload (pc := 221) 3 dX11_threads_221 rfl ?_
        refine s_iconst (pc := 223) (v := 1) dX11_threads_223 rfl ?_
        refine s_isub (pc := 224) dX11_threads_224 ?_
        refine s_iload (pc := 225) 2 dX11_threads_225 rfl ?_
        refine s_iand (pc := 227) dX11_threads_227 ?_
        refine s_letI (fun u5_228 => ?_)
        refine s_istore (pc := 228) [(5, .int u5_228), (0, .ref (gA G 1)), (3, .int v3), (4, .int v4)] dX11_threads_228 (Nat.le_of_ble_eq_true rfl) rfl ?_
        refine s_goto (pc := 230) 175 dX11_threads_230 rfl ?_
        refine s_sub [1, 2, 3, 0] rfl ?_
        exact ih u5_228 P220
def Mo_threads_155   (v3 : Int32)  : Nat → Int32 → PH → Option (Int32 × PH)
  | 0 => fun _ _ => none
  | n + 1 => fun v4 P =>
    if v3 < v4 then
      Mo_threads_239 v3 P
    else
      gdI v4 4096 <|
      (some (sI P 104 v4.toNatClampNeg (1000 : Int32))).bind fun (P170 : PH) =>
      Mo_threads_175 (Mo_threads_155 v3 n) v3 v4 bigN v4 P170
set_option maxRecDepth 100000 in
set_option maxHeartbeats 4000000 in
theorem Mo_threads_155_sem {G : GT} {l : Launch} (hG : GOK G l)  (v3 : Int32)    : ∀ (n : Nat) (v4 : Int32) (P : PH), Sem G l miX11_threads 0 0 (rn tIH) 155 [(0, .ref (gA G 1)), (3, .int v3), (4, .int v4)] [] P (Mo_threads_155 v3 n v4 P) := by
  intro n
  induction n with
  | zero => intro v4 P; exact s_none rfl
  | succ n ih =>
    intro v4 P
    rw [Mo_threads_155]
    refine s_iload (pc := 155) 2 dX11_threads_155 rfl ?_
    refine s_iload_n (pc := 157) 1 dX11_threads_157 rfl rfl ?_
    refine s_icmp_gt (pc := 158) 239 dX11_threads_158 rfl ?_ ?_
    · refine s_sub [0, 1] rfl ?_
      exact Mo_threads_239_sem hG v3 P
    · refine s_aload_n (pc := 161) 0 dX11_threads_161 rfl rfl ?_
      refine s_getR (pc := 162) 104 dX11_threads_162 (fi_X11_63 hG) kd_1 rfl ?_
      refine s_iload (pc := 165) 2 dX11_threads_165 rfl ?_
      refine s_sipush (pc := 167) (v := 1000) dX11_threads_167 rfl ?_
      refine s_iast (pc := 170) 4096 dX11_threads_170 kd_104 ln_104 ?_
      refine s_letP (fun P170 => ?_)
      refine s_iload (pc := 171) 2 dX11_threads_171 rfl ?_
      refine s_istore (pc := 173) [(5, .int v4), (0, .ref (gA G 1)), (3, .int v3), (4, .int v4)] dX11_threads_173 (Nat.le_of_ble_eq_true rfl) rfl ?_
      refine s_sub [1, 2, 3, 0] rfl ?_
      exact Mo_threads_175_sem hG v3 v4 (Mo_threads_155 v3 n) ih bigN v4 P170
def Mo_threads_129   (v2 : Int32) (P : PH) : Option (Int32 × PH) :=
  (Mo_layOnes v2 P).bind fun (x131 : PH) =>
  (some (((1 : Int32) <<< (((2 : Int32) * (x131.1 1 38)) &&& 31)) - (1 : Int32))).bind fun (u3_144 : Int32) =>
  gdI (0 : Int32) 4096 <|
  (some (sI x131 104 (0 : Int32).toNatClampNeg (0 : Int32))).bind fun (P151 : PH) =>
  Mo_threads_155 u3_144 bigN (1 : Int32) P151
set_option maxRecDepth 100000 in
set_option maxHeartbeats 4000000 in
theorem Mo_threads_129_sem {G : GT} {l : Launch} (hG : GOK G l)  (v2 : Int32) (P : PH)   : Sem G l miX11_threads 0 0 (rn tIH) 129 [(0, .ref (gA G 1)), (2, .int v2)] [] P (Mo_threads_129 v2 P) := by
  unfold Mo_threads_129
  refine s_aload_n (pc := 129) 0 dX11_threads_129 rfl rfl ?_
  refine s_iload_n (pc := 130) 1 dX11_threads_130 rfl rfl ?_
  refine s_callV (k := 0) (n := 0) (pc := 131) [.int v2] (fun _ => []) (fun x131 => x131) dX11_threads_131 (cV_X11_421 hG) (Nat.le_of_ble_eq_true rfl) rfl kd_1 (Mo_layOnes_ok hG v2 P) rfl (fun _ => rfl) (fun _ => rfl) (Nat.le_of_ble_eq_true rfl) rfl rfl (fun x131 => ?_)
  refine s_iconst (pc := 134) (v := 1) dX11_threads_134 rfl ?_
  refine s_iconst (pc := 135) (v := 2) dX11_threads_135 rfl ?_
  refine s_aload_n (pc := 136) 0 dX11_threads_136 rfl rfl ?_
  refine s_getI (pc := 137) dX11_threads_137 (fi_X11_411 hG) kd_1 ?_
  refine s_imul (pc := 140) dX11_threads_140 ?_
  refine s_ishl (pc := 141) dX11_threads_141 ?_
  refine s_iconst (pc := 142) (v := 1) dX11_threads_142 rfl ?_
  refine s_isub (pc := 143) dX11_threads_143 ?_
  refine s_letI (fun u3_144 => ?_)
  refine s_istore_n (pc := 144) [(3, .int u3_144), (0, .ref (gA G 1)), (2, .int v2)] dX11_threads_144 rfl (Nat.le_of_ble_eq_true rfl) rfl ?_
  refine s_aload_n (pc := 145) 1 dX11_threads_145 rfl rfl ?_
  refine s_getR (pc := 146) 104 dX11_threads_146 (fi_X11_63 hG) kd_1 rfl ?_
  refine s_iconst (pc := 149) (v := 0) dX11_threads_149 rfl ?_
  refine s_iconst (pc := 150) (v := 0) dX11_threads_150 rfl ?_
  refine s_iast (pc := 151) 4096 dX11_threads_151 kd_104 ln_104 ?_
  refine s_letP (fun P151 => ?_)
  refine s_iconst (pc := 152) (v := 1) dX11_threads_152 rfl ?_
  refine s_istore (pc := 153) [(4, .int ((1 : Int32))), (3, .int u3_144), (0, .ref (gA G 1)), (2, .int v2)] dX11_threads_153 (Nat.le_of_ble_eq_true rfl) rfl ?_
  refine s_sub [2, 1, 0] rfl ?_
  exact Mo_threads_155_sem hG u3_144 bigN (1 : Int32) P151
def Mo_threads_49   (v1 : Int32) (v2 : Int32)  : Nat → Int32 → PH → Option (Int32 × PH)
  | 0 => fun _ _ => none
  | n + 1 => fun v3 P =>
    gdI (0 : Int32) 512 <|
    if (P.1 88 (0 : Int32).toNatClampNeg) ≤ v3 then
      Mo_threads_129 v2 P
    else
      (Mo_inkOf v3 P).bind fun (x61 : Int32) =>
      if x61 = v1 then
        if (P.1 1 38) = (6 : Int32) then
          some ((-2 : Int32), P)
        else
          gdI (P.1 1 38) 6 <|
          (some (sI P 102 (P.1 1 38).toNatClampNeg v3)).bind fun (P92 : PH) =>
          (some (sI P92 1 38 ((P92.1 1 38) + (1 : Int32)))).bind fun (P100 : PH) =>
          (Mo_from v3 P100).bind fun (x106 : Int32) =>
          (Mo_corner x106 P100).bind fun (x109 : Int32 × PH) =>
          (Mo_to v3 x109.2).bind fun (x116 : Int32) =>
          (Mo_corner x116 x109.2).bind fun (x119 : Int32 × PH) =>
          Mo_threads_49 v1 v2 n (v3 + 1) x119.2
      else
        Mo_threads_49 v1 v2 n (v3 + 1) P
set_option maxRecDepth 100000 in
set_option maxHeartbeats 4000000 in
theorem Mo_threads_49_sem {G : GT} {l : Launch} (hG : GOK G l)  (v1 : Int32) (v2 : Int32)    : ∀ (n : Nat) (v3 : Int32) (P : PH), Sem G l miX11_threads 0 0 (rn tIH) 49 [(0, .ref (gA G 1)), (1, .int v1), (2, .int v2), (3, .int v3)] [] P (Mo_threads_49 v1 v2 n v3 P) := by
  intro n
  induction n with
  | zero => intro v3 P; exact s_none rfl
  | succ n ih =>
    intro v3 P
    rw [Mo_threads_49]
    refine s_iload_n (pc := 49) 3 dX11_threads_49 rfl rfl ?_
    refine s_aload_n (pc := 50) 0 dX11_threads_50 rfl rfl ?_
    refine s_getR (pc := 51) 88 dX11_threads_51 (fi_X11_9 hG) kd_1 rfl ?_
    refine s_iconst (pc := 54) (v := 0) dX11_threads_54 rfl ?_
    refine s_iald (pc := 55) 512 dX11_threads_55 kd_88 ln_88 ?_
    refine s_icmp_ge (pc := 56) 129 dX11_threads_56 rfl ?_ ?_
    · refine s_sub [0, 2] rfl ?_
      exact Mo_threads_129_sem hG v2 P
    · refine s_aload_n (pc := 59) 0 dX11_threads_59 rfl rfl ?_
      refine s_iload_n (pc := 60) 3 dX11_threads_60 rfl rfl ?_
      refine s_callV (k := 0) (n := 0) (pc := 61) [.int v3] (fun x61 => .int x61 :: []) (fun _ => P) dX11_threads_61 (cV_X11_258 hG) (Nat.le_of_ble_eq_true rfl) rfl kd_1 (Mo_inkOf_ok hG v3 P) rfl (fun _ => rfl) (fun _ => rfl) (Nat.le_of_ble_eq_true rfl) rfl rfl (fun x61 => ?_)
      refine s_iload_n (pc := 64) 1 dX11_threads_64 rfl rfl ?_
      refine s_icmp_eq (pc := 65) 71 dX11_threads_65 rfl ?_ ?_
      · refine s_aload_n (pc := 71) 0 dX11_threads_71 rfl rfl ?_
        refine s_getI (pc := 72) dX11_threads_72 (fi_X11_411 hG) kd_1 ?_
        refine s_bipush (pc := 75) (v := 6) dX11_threads_75 rfl ?_
        refine s_icmp_ne (pc := 77) 83 dX11_threads_77 rfl ?_ ?_
        · refine s_bipush (pc := 80) (v := (-2)) dX11_threads_80 rfl ?_
          exact s_iret (pc := 82) dX11_threads_82 rfl rfl
        · refine s_aload_n (pc := 83) 0 dX11_threads_83 rfl rfl ?_
          refine s_getR (pc := 84) 102 dX11_threads_84 (fi_X11_57 hG) kd_1 rfl ?_
          refine s_aload_n (pc := 87) 0 dX11_threads_87 rfl rfl ?_
          refine s_getI (pc := 88) dX11_threads_88 (fi_X11_411 hG) kd_1 ?_
          refine s_iload_n (pc := 91) 3 dX11_threads_91 rfl rfl ?_
          refine s_iast (pc := 92) 6 dX11_threads_92 kd_102 ln_102 ?_
          refine s_letP (fun P92 => ?_)
          refine s_aload_n (pc := 93) 0 dX11_threads_93 rfl rfl ?_
          refine s_dup (pc := 94) dX11_threads_94 rfl ?_
          refine s_getI (pc := 95) dX11_threads_95 (fi_X11_411 hG) kd_1 ?_
          refine s_iconst (pc := 98) (v := 1) dX11_threads_98 rfl ?_
          refine s_iadd (pc := 99) dX11_threads_99 ?_
          refine s_putI (pc := 100) dX11_threads_100 (fp_X11_411 hG) kd_1 ?_
          refine s_letP (fun P100 => ?_)
          refine s_aload_n (pc := 103) 0 dX11_threads_103 rfl rfl ?_
          refine s_aload_n (pc := 104) 0 dX11_threads_104 rfl rfl ?_
          refine s_iload_n (pc := 105) 3 dX11_threads_105 rfl rfl ?_
          refine s_callV (k := 0) (n := 0) (pc := 106) [.int v3] (fun x106 => .int x106 :: [.ref (gA G 1)]) (fun _ => P100) dX11_threads_106 (cV_X11_261 hG) (Nat.le_of_ble_eq_true rfl) rfl kd_1 (Mo_from_ok hG v3 P100) rfl (fun _ => rfl) (fun _ => rfl) (Nat.le_of_ble_eq_true rfl) rfl rfl (fun x106 => ?_)
          refine s_callV (k := 0) (n := 0) (pc := 109) [.int x106] (fun x109 => .int (x109.1) :: []) (fun x109 => x109.2) dX11_threads_109 (cV_X11_416 hG) (Nat.le_of_ble_eq_true rfl) rfl kd_1 (Mo_corner_ok hG x106 P100) rfl (fun _ => rfl) (fun _ => rfl) (Nat.le_of_ble_eq_true rfl) rfl rfl (fun x109 => ?_)
          refine s_pop (pc := 112) dX11_threads_112 rfl ?_
          refine s_aload_n (pc := 113) 0 dX11_threads_113 rfl rfl ?_
          refine s_aload_n (pc := 114) 0 dX11_threads_114 rfl rfl ?_
          refine s_iload_n (pc := 115) 3 dX11_threads_115 rfl rfl ?_
          refine s_callV (k := 0) (n := 0) (pc := 116) [.int v3] (fun x116 => .int x116 :: [.ref (gA G 1)]) (fun _ => x109.2) dX11_threads_116 (cV_X11_264 hG) (Nat.le_of_ble_eq_true rfl) rfl kd_1 (Mo_to_ok hG v3 x109.2) rfl (fun _ => rfl) (fun _ => rfl) (Nat.le_of_ble_eq_true rfl) rfl rfl (fun x116 => ?_)
          refine s_callV (k := 0) (n := 0) (pc := 119) [.int x116] (fun x119 => .int (x119.1) :: []) (fun x119 => x119.2) dX11_threads_119 (cV_X11_416 hG) (Nat.le_of_ble_eq_true rfl) rfl kd_1 (Mo_corner_ok hG x116 x109.2) rfl (fun _ => rfl) (fun _ => rfl) (Nat.le_of_ble_eq_true rfl) rfl rfl (fun x119 => ?_)
          refine s_pop (pc := 122) dX11_threads_122 rfl ?_
          refine s_iinc (pc := 123) 3 1 [(3, .int (v3 + 1)), (0, .ref (gA G 1)), (1, .int v1), (2, .int v2)] dX11_threads_123 rfl rfl (Nat.le_of_ble_eq_true rfl) rfl ?_
          refine s_goto (pc := 126) 49 dX11_threads_126 rfl ?_
          refine s_sub [1, 2, 3, 0] rfl ?_
          exact ih (v3 + 1) x119.2
      · refine s_goto (pc := 68) 123 dX11_threads_68 rfl ?_
        refine s_iinc (pc := 123) 3 1 [(3, .int (v3 + 1)), (0, .ref (gA G 1)), (1, .int v1), (2, .int v2)] dX11_threads_123 rfl rfl (Nat.le_of_ble_eq_true rfl) rfl ?_
        refine s_goto (pc := 126) 49 dX11_threads_126 rfl ?_
        refine s_sub [1, 2, 3, 0] rfl ?_
        exact ih (v3 + 1) P
def Mo_threads_25   (v1 : Int32) (v2 : Int32) (s0 : Int32) (P : PH) : Option (Int32 × PH) :=
  (some (sI P 1 5 s0)).bind fun (P25 : PH) =>
  if (P25.1 1 5) ≤ 0 then
    (some (sI P25 1 38 (0 : Int32))).bind fun (P39 : PH) =>
    (some (sI P39 1 39 (0 : Int32))).bind fun (P44 : PH) =>
    Mo_threads_49 v1 v2 bigN (0 : Int32) P44
  else
    some ((0 : Int32), P25)
set_option maxRecDepth 100000 in
set_option maxHeartbeats 4000000 in
theorem Mo_threads_25_sem {G : GT} {l : Launch} (hG : GOK G l)  (v1 : Int32) (v2 : Int32) (s0 : Int32) (P : PH)   : Sem G l miX11_threads 0 0 (rn tIH) 25 [(0, .ref (gA G 1)), (1, .int v1), (2, .int v2)] [.int s0, .ref (gA G 1)] P (Mo_threads_25 v1 v2 s0 P) := by
  unfold Mo_threads_25
  refine s_putI (pc := 25) dX11_threads_25 (fp_X11_86 hG) kd_1 ?_
  refine s_letP (fun P25 => ?_)
  refine s_aload_n (pc := 28) 0 dX11_threads_28 rfl rfl ?_
  refine s_getI (pc := 29) dX11_threads_29 (fi_X11_86 hG) kd_1 ?_
  refine s_if_le (pc := 32) 37 dX11_threads_32 rfl ?_ ?_
  · refine s_aload_n (pc := 37) 0 dX11_threads_37 rfl rfl ?_
    refine s_iconst (pc := 38) (v := 0) dX11_threads_38 rfl ?_
    refine s_putI (pc := 39) dX11_threads_39 (fp_X11_411 hG) kd_1 ?_
    refine s_letP (fun P39 => ?_)
    refine s_aload_n (pc := 42) 0 dX11_threads_42 rfl rfl ?_
    refine s_iconst (pc := 43) (v := 0) dX11_threads_43 rfl ?_
    refine s_putI (pc := 44) dX11_threads_44 (fp_X11_398 hG) kd_1 ?_
    refine s_letP (fun P44 => ?_)
    refine s_iconst (pc := 47) (v := 0) dX11_threads_47 rfl ?_
    refine s_istore_n (pc := 48) [(3, .int ((0 : Int32))), (0, .ref (gA G 1)), (1, .int v1), (2, .int v2)] dX11_threads_48 rfl (Nat.le_of_ble_eq_true rfl) rfl ?_
    refine s_sub [1, 2, 3, 0] rfl ?_
    exact Mo_threads_49_sem hG v1 v2 bigN (0 : Int32) P44
  · refine s_iconst (pc := 35) (v := 0) dX11_threads_35 rfl ?_
    exact s_iret (pc := 36) dX11_threads_36 rfl rfl
def Mo_threads  (v1 : Int32) (v2 : Int32) (P : PH) : Option (Int32 × PH) :=
  (Mo_isInk v1 P).bind fun (x2 : Int32) =>
  if x2 = 0 then
    Mo_threads_25 v1 v2 (1 : Int32) P
  else
    (Mo_within v2.toInt64 (1 : Int64) (20 : Int64) P).bind fun (x14 : Int32) =>
    if x14 = 0 then
      Mo_threads_25 v1 v2 (1 : Int32) P
    else
      Mo_threads_25 v1 v2 (0 : Int32) P
set_option maxRecDepth 100000 in
set_option maxHeartbeats 4000000 in
theorem Mo_threads_ok {G : GT} {l : Launch} (hG : GOK G l)  (v1 : Int32) (v2 : Int32) (P : PH) : OkN G l yX11_threads miX11_threads 0 0 tIH [.ref (gA G 1), .int v1, .int v2] P (Mo_threads v1 v2 P) := by
  refine okN_of hG _ [(0, .ref (gA G 1)), (1, .int v1), (2, .int v2)] rfl rfl rfl (Nat.le_of_ble_eq_true rfl) rfl ?_
  unfold Mo_threads
  refine s_aload_n (pc := 0) 0 dX11_threads_0 rfl rfl ?_
  refine s_iload_n (pc := 1) 1 dX11_threads_1 rfl rfl ?_
  refine s_callS (k := 0) (n := 0) (pc := 2) [.int v1] (fun x2 => .int x2 :: [.ref (gA G 1)]) (fun _ => P) dX11_threads_2 (cS_X11_280 hG) (Nat.le_of_ble_eq_true rfl) rfl (Mo_isInk_ok hG v1 P) rfl (fun _ => rfl) (fun _ => rfl) (Nat.le_of_ble_eq_true rfl) rfl rfl (fun x2 => ?_)
  refine s_if_eq (pc := 5) 24 dX11_threads_5 rfl ?_ ?_
  · refine s_iconst (pc := 24) (v := 1) dX11_threads_24 rfl ?_
    exact Mo_threads_25_sem hG v1 v2 (1 : Int32) P
  · refine s_iload_n (pc := 8) 2 dX11_threads_8 rfl rfl ?_
    refine s_i2l (pc := 9) dX11_threads_9 ?_
    refine s_lconst (pc := 10) (v := 1) dX11_threads_10 rfl ?_
    refine s_ldc2 (pc := 11) (v := 20) dX11_threads_11 (gw_X11_419 hG) ?_
    refine s_callS (k := 0) (n := 0) (pc := 14) [.long (v2.toInt64), .long ((1 : Int64)), .long ((20 : Int64))] (fun x14 => .int x14 :: [.ref (gA G 1)]) (fun _ => P) dX11_threads_14 (cS_X11_98 hG) (Nat.le_of_ble_eq_true rfl) rfl (Mo_within_ok hG v2.toInt64 (1 : Int64) (20 : Int64) P) rfl (fun _ => rfl) (fun _ => rfl) (Nat.le_of_ble_eq_true rfl) rfl rfl (fun x14 => ?_)
    refine s_if_eq (pc := 17) 24 dX11_threads_17 rfl ?_ ?_
    · refine s_iconst (pc := 24) (v := 1) dX11_threads_24 rfl ?_
      exact Mo_threads_25_sem hG v1 v2 (1 : Int32) P
    · refine s_iconst (pc := 20) (v := 0) dX11_threads_20 rfl ?_
      refine s_goto (pc := 21) 25 dX11_threads_21 rfl ?_
      exact Mo_threads_25_sem hG v1 v2 (0 : Int32) P
def Mo_seen_9   (v1 : Int32)  : Nat → Int32 → Int32 → PH → Option (Int32 × PH)
  | 0 => fun _ _ _ => none
  | n + 1 => fun v2 v3 P =>
    gdI (0 : Int32) 512 <|
    if (P.1 88 (0 : Int32).toNatClampNeg) ≤ v3 then
      some (v2, P)
    else
      (Mo_worked v3 P).bind fun (x22 : Int32) =>
      (Mo_face v1 P).bind fun (x26 : Int32) =>
      if (x22 &&& x26) = 0 then
        (some (v2 + (0 : Int32))).bind fun (u2_39 : Int32) =>
        Mo_seen_9 v1 n u2_39 (v3 + 1) P
      else
        (some (v2 + (1 : Int32))).bind fun (u2_39 : Int32) =>
        Mo_seen_9 v1 n u2_39 (v3 + 1) P
set_option maxRecDepth 100000 in
set_option maxHeartbeats 4000000 in
theorem Mo_seen_9_sem {G : GT} {l : Launch} (hG : GOK G l)  (v1 : Int32)    : ∀ (n : Nat) (v2 : Int32) (v3 : Int32) (P : PH), Sem G l miX11_seen 0 0 (rn tIH) 9 [(0, .ref (gA G 1)), (1, .int v1), (2, .int v2), (3, .int v3)] [] P (Mo_seen_9 v1 n v2 v3 P) := by
  intro n
  induction n with
  | zero => intro v2 v3 P; exact s_none rfl
  | succ n ih =>
    intro v2 v3 P
    rw [Mo_seen_9]
    refine s_iload_n (pc := 9) 3 dX11_seen_9 rfl rfl ?_
    refine s_aload_n (pc := 10) 0 dX11_seen_10 rfl rfl ?_
    refine s_getR (pc := 11) 88 dX11_seen_11 (fi_X11_9 hG) kd_1 rfl ?_
    refine s_iconst (pc := 14) (v := 0) dX11_seen_14 rfl ?_
    refine s_iald (pc := 15) 512 dX11_seen_15 kd_88 ln_88 ?_
    refine s_icmp_ge (pc := 16) 46 dX11_seen_16 rfl ?_ ?_
    · refine s_iload_n (pc := 46) 2 dX11_seen_46 rfl rfl ?_
      exact s_iret (pc := 47) dX11_seen_47 rfl rfl
    · refine s_iload_n (pc := 19) 2 dX11_seen_19 rfl rfl ?_
      refine s_aload_n (pc := 20) 0 dX11_seen_20 rfl rfl ?_
      refine s_iload_n (pc := 21) 3 dX11_seen_21 rfl rfl ?_
      refine s_callV (k := 0) (n := 0) (pc := 22) [.int v3] (fun x22 => .int x22 :: [.int v2]) (fun _ => P) dX11_seen_22 (cV_X11_270 hG) (Nat.le_of_ble_eq_true rfl) rfl kd_1 (Mo_worked_ok hG v3 P) rfl (fun _ => rfl) (fun _ => rfl) (Nat.le_of_ble_eq_true rfl) rfl rfl (fun x22 => ?_)
      refine s_iload_n (pc := 25) 1 dX11_seen_25 rfl rfl ?_
      refine s_callS (k := 0) (n := 0) (pc := 26) [.int v1] (fun x26 => .int x26 :: [.int x22, .int v2]) (fun _ => P) dX11_seen_26 (cS_X11_336 hG) (Nat.le_of_ble_eq_true rfl) rfl (Mo_face_ok hG v1 P) rfl (fun _ => rfl) (fun _ => rfl) (Nat.le_of_ble_eq_true rfl) rfl rfl (fun x26 => ?_)
      refine s_iand (pc := 29) dX11_seen_29 ?_
      refine s_if_eq (pc := 30) 37 dX11_seen_30 rfl ?_ ?_
      · refine s_iconst (pc := 37) (v := 0) dX11_seen_37 rfl ?_
        refine s_iadd (pc := 38) dX11_seen_38 ?_
        refine s_letI (fun u2_39 => ?_)
        refine s_istore_n (pc := 39) [(2, .int u2_39), (0, .ref (gA G 1)), (1, .int v1), (3, .int v3)] dX11_seen_39 rfl (Nat.le_of_ble_eq_true rfl) rfl ?_
        refine s_iinc (pc := 40) 3 1 [(3, .int (v3 + 1)), (2, .int u2_39), (0, .ref (gA G 1)), (1, .int v1)] dX11_seen_40 rfl rfl (Nat.le_of_ble_eq_true rfl) rfl ?_
        refine s_goto (pc := 43) 9 dX11_seen_43 rfl ?_
        refine s_sub [2, 3, 1, 0] rfl ?_
        exact ih u2_39 (v3 + 1) P
      · refine s_iconst (pc := 33) (v := 1) dX11_seen_33 rfl ?_
        refine s_goto (pc := 34) 38 dX11_seen_34 rfl ?_
        refine s_iadd (pc := 38) dX11_seen_38 ?_
        refine s_letI (fun u2_39 => ?_)
        refine s_istore_n (pc := 39) [(2, .int u2_39), (0, .ref (gA G 1)), (1, .int v1), (3, .int v3)] dX11_seen_39 rfl (Nat.le_of_ble_eq_true rfl) rfl ?_
        refine s_iinc (pc := 40) 3 1 [(3, .int (v3 + 1)), (2, .int u2_39), (0, .ref (gA G 1)), (1, .int v1)] dX11_seen_40 rfl rfl (Nat.le_of_ble_eq_true rfl) rfl ?_
        refine s_goto (pc := 43) 9 dX11_seen_43 rfl ?_
        refine s_sub [2, 3, 1, 0] rfl ?_
        exact ih u2_39 (v3 + 1) P
def Mo_seen  (v1 : Int32) (P : PH) : Option (Int32 × PH) :=
  (some (sI P 1 5 (0 : Int32))).bind fun (P2 : PH) =>
  Mo_seen_9 v1 bigN (0 : Int32) (0 : Int32) P2
set_option maxRecDepth 100000 in
set_option maxHeartbeats 4000000 in
theorem Mo_seen_ok {G : GT} {l : Launch} (hG : GOK G l)  (v1 : Int32) (P : PH) : OkN G l yX11_seen miX11_seen 0 0 tIH [.ref (gA G 1), .int v1] P (Mo_seen v1 P) := by
  refine okN_of hG _ [(0, .ref (gA G 1)), (1, .int v1)] rfl rfl rfl (Nat.le_of_ble_eq_true rfl) rfl ?_
  unfold Mo_seen
  refine s_aload_n (pc := 0) 0 dX11_seen_0 rfl rfl ?_
  refine s_iconst (pc := 1) (v := 0) dX11_seen_1 rfl ?_
  refine s_putI (pc := 2) dX11_seen_2 (fp_X11_86 hG) kd_1 ?_
  refine s_letP (fun P2 => ?_)
  refine s_iconst (pc := 5) (v := 0) dX11_seen_5 rfl ?_
  refine s_istore_n (pc := 6) [(2, .int ((0 : Int32))), (0, .ref (gA G 1)), (1, .int v1)] dX11_seen_6 rfl (Nat.le_of_ble_eq_true rfl) rfl ?_
  refine s_iconst (pc := 7) (v := 0) dX11_seen_7 rfl ?_
  refine s_istore_n (pc := 8) [(3, .int ((0 : Int32))), (2, .int ((0 : Int32))), (0, .ref (gA G 1)), (1, .int v1)] dX11_seen_8 rfl (Nat.le_of_ble_eq_true rfl) rfl ?_
  refine s_sub [2, 3, 1, 0] rfl ?_
  exact Mo_seen_9_sem hG v1 bigN (0 : Int32) (0 : Int32) P2
