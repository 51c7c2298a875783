def Rs_goBackAlong_13   (v1 : Int32) (s0 : Int32) (P : PH) : Option (PH) :=
  gdP (s0 = 0 ∨ s0 = 1) <|
  (some (sI P 75 7 s0)).bind fun (P13 : PH) =>
  (Rs_turn v1 P13).bind fun (x18 : PH) =>
  (Dr_otherEnd 3 v1 (x18.1 75 6) x18).bind fun (x31 : Int32) =>
  (some (sI x18 75 6 x31)).bind fun (P34 : PH) =>
  some P34
set_option maxRecDepth 100000 in
set_option maxHeartbeats 4000000 in
theorem Rs_goBackAlong_13_sem {G : GT} {l : Launch} (hG : GOK G l)  (v1 : Int32) (s0 : Int32) (P : PH)   : Sem G l miX5_goBackAlong 0 0 (rn tVH) 13 [(0, .ref (gA G 75)), (1, .int v1)] [.int s0, .ref (gA G 75)] P (Rs_goBackAlong_13 v1 s0 P) := by
  unfold Rs_goBackAlong_13
  refine s_putZ (pc := 13) dX5_goBackAlong_13 (fp_X5_51 hG) kd_75 ?_
  refine s_letP (fun P13 => ?_)
  refine s_aload_n (pc := 16) 0 dX5_goBackAlong_16 rfl rfl ?_
  refine s_iload_n (pc := 17) 1 dX5_goBackAlong_17 rfl rfl ?_
  refine s_callV (k := 0) (n := 0) (pc := 18) [.int v1] (fun _ => []) (fun x18 => x18) dX5_goBackAlong_18 (cV_X5_121 hG) (Nat.le_of_ble_eq_true rfl) rfl kd_75 (Rs_turn_ok hG v1 P13) rfl (fun _ => rfl) (fun _ => rfl) (Nat.le_of_ble_eq_true rfl) rfl rfl (fun x18 => ?_)
  refine s_aload_n (pc := 21) 0 dX5_goBackAlong_21 rfl rfl ?_
  refine s_aload_n (pc := 22) 0 dX5_goBackAlong_22 rfl rfl ?_
  refine s_getR (pc := 23) 3 dX5_goBackAlong_23 (fi_X5_15 hG) kd_75 rfl ?_
  refine s_iload_n (pc := 26) 1 dX5_goBackAlong_26 rfl rfl ?_
  refine s_aload_n (pc := 27) 0 dX5_goBackAlong_27 rfl rfl ?_
  refine s_getI (pc := 28) dX5_goBackAlong_28 (fi_X5_50 hG) kd_75 ?_
  refine s_callV (k := 0) (n := 0) (pc := 31) [.int v1, .int (x18.1 75 6)] (fun x31 => .int x31 :: [.ref (gA G 75)]) (fun _ => x18) dX5_goBackAlong_31 (cV_X5_124 hG) (Nat.le_of_ble_eq_true rfl) rfl kd_3 (Dr_otherEnd_ok hG 3 kd_3 v1 (x18.1 75 6) x18) rfl (fun _ => rfl) (fun _ => rfl) (Nat.le_of_ble_eq_true rfl) rfl rfl (fun x31 => ?_)
  refine s_putI (pc := 34) dX5_goBackAlong_34 (fp_X5_50 hG) kd_75 ?_
  refine s_letP (fun P34 => ?_)
  exact s_vret (pc := 37) dX5_goBackAlong_37 rfl rfl
def Rs_goBackAlong  (v1 : Int32) (P : PH) : Option (PH) :=
  if (P.1 75 7) = 0 then
    Rs_goBackAlong_13 v1 (1 : Int32) P
  else
    Rs_goBackAlong_13 v1 (0 : Int32) P
set_option maxRecDepth 100000 in
set_option maxHeartbeats 4000000 in
theorem Rs_goBackAlong_ok {G : GT} {l : Launch} (hG : GOK G l)  (v1 : Int32) (P : PH) : OkN G l yX5_goBackAlong miX5_goBackAlong 0 0 tVH [.ref (gA G 75), .int v1] P (Rs_goBackAlong v1 P) := by
  refine okN_of hG _ [(0, .ref (gA G 75)), (1, .int v1)] rfl rfl rfl (Nat.le_of_ble_eq_true rfl) rfl ?_
  unfold Rs_goBackAlong
  refine s_aload_n (pc := 0) 0 dX5_goBackAlong_0 rfl rfl ?_
  refine s_aload_n (pc := 1) 0 dX5_goBackAlong_1 rfl rfl ?_
  refine s_getI (pc := 2) dX5_goBackAlong_2 (fi_X5_51 hG) kd_75 ?_
  refine s_if_ne (pc := 5) 12 dX5_goBackAlong_5 rfl ?_ ?_
  · refine s_iconst (pc := 8) (v := 1) dX5_goBackAlong_8 rfl ?_
    refine s_goto (pc := 9) 13 dX5_goBackAlong_9 rfl ?_
    exact Rs_goBackAlong_13_sem hG v1 (1 : Int32) P
  · refine s_iconst (pc := 12) (v := 0) dX5_goBackAlong_12 rfl ?_
    exact Rs_goBackAlong_13_sem hG v1 (0 : Int32) P
def Rs_leastWay_46  (r7 : Int32 → PH → Option (Int32 × PH)) (v1 : Int32) (v2 : Int32) (v3 : Int32) (s0 : Int64) (P : PH) : Option (Int32 × PH) :=
  if (lg_cmp ((s0 >>> (v3.toInt64 &&& 63)) &&& (1 : Int64)) (0 : Int64)) = 0 then
    r7 (v2 + 1) P
  else
    (Rs_goAlong v3 P).bind fun (x57 : PH) =>
    (Rs_hangs x57).bind fun (x61 : Int32) =>
    if x61 = 0 then
      (Rs_goBackAlong v3 x57).bind fun (x71 : PH) =>
      r7 (v2 + 1) x71
    else
      some (v2, x57)
set_option maxRecDepth 100000 in
set_option maxHeartbeats 4000000 in
theorem Rs_leastWay_46_sem {G : GT} {l : Launch} (hG : GOK G l)  (v1 : Int32) (v2 : Int32) (v3 : Int32) (s0 : Int64) (P : PH)  (r7 : Int32 → PH → Option (Int32 × PH)) (hr7 : ∀ (v2 : Int32) (P : PH), Sem G l miX5_leastWay 0 0 (rn tIH) 7 [(0, .ref (gA G 75)), (1, .int v1), (2, .int v2)] [] P (r7 v2 P)) : Sem G l miX5_leastWay 0 0 (rn tIH) 46 [(0, .ref (gA G 75)), (1, .int v1), (2, .int v2), (3, .int v3)] [.long s0] P (Rs_leastWay_46 r7 v1 v2 v3 s0 P) := by
  unfold Rs_leastWay_46
  refine s_iload_n (pc := 46) 3 dX5_leastWay_46 rfl rfl ?_
  refine s_lshr (pc := 47) dX5_leastWay_47 ?_
  refine s_lconst (pc := 48) (v := 1) dX5_leastWay_48 rfl ?_
  refine s_land (pc := 49) dX5_leastWay_49 ?_
  refine s_lconst (pc := 50) (v := 0) dX5_leastWay_50 rfl ?_
  refine s_lcmp (pc := 51) dX5_leastWay_51 ?_
  refine s_if_eq (pc := 52) 74 dX5_leastWay_52 rfl ?_ ?_
  · refine s_iinc (pc := 74) 2 1 [(2, .int (v2 + 1)), (0, .ref (gA G 75)), (1, .int v1), (3, .int v3)] dX5_leastWay_74 rfl rfl (Nat.le_of_ble_eq_true rfl) rfl ?_
    refine s_goto (pc := 77) 7 dX5_leastWay_77 rfl ?_
    refine s_sub [1, 2, 0] rfl ?_
    exact hr7 (v2 + 1) P
  · refine s_aload_n (pc := 55) 0 dX5_leastWay_55 rfl rfl ?_
    refine s_iload_n (pc := 56) 3 dX5_leastWay_56 rfl rfl ?_
    refine s_callV (k := 0) (n := 0) (pc := 57) [.int v3] (fun _ => []) (fun x57 => x57) dX5_leastWay_57 (cV_X5_114 hG) (Nat.le_of_ble_eq_true rfl) rfl kd_75 (Rs_goAlong_ok hG v3 P) rfl (fun _ => rfl) (fun _ => rfl) (Nat.le_of_ble_eq_true rfl) rfl rfl (fun x57 => ?_)
    refine s_aload_n (pc := 60) 0 dX5_leastWay_60 rfl rfl ?_
    refine s_callV (k := 0) (n := 0) (pc := 61) [] (fun x61 => .int x61 :: []) (fun _ => x57) dX5_leastWay_61 (cV_X5_72 hG) (Nat.le_of_ble_eq_true rfl) rfl kd_75 (Rs_hangs_ok hG x57) rfl (fun _ => rfl) (fun _ => rfl) (Nat.le_of_ble_eq_true rfl) rfl rfl (fun x61 => ?_)
    refine s_if_eq (pc := 64) 69 dX5_leastWay_64 rfl ?_ ?_
    · refine s_aload_n (pc := 69) 0 dX5_leastWay_69 rfl rfl ?_
      refine s_iload_n (pc := 70) 3 dX5_leastWay_70 rfl rfl ?_
      refine s_callV (k := 0) (n := 0) (pc := 71) [.int v3] (fun _ => []) (fun x71 => x71) dX5_leastWay_71 (cV_X5_118 hG) (Nat.le_of_ble_eq_true rfl) rfl kd_75 (Rs_goBackAlong_ok hG v3 x57) rfl (fun _ => rfl) (fun _ => rfl) (Nat.le_of_ble_eq_true rfl) rfl rfl (fun x71 => ?_)
      refine s_iinc (pc := 74) 2 1 [(2, .int (v2 + 1)), (0, .ref (gA G 75)), (1, .int v1), (3, .int v3)] dX5_leastWay_74 rfl rfl (Nat.le_of_ble_eq_true rfl) rfl ?_
      refine s_goto (pc := 77) 7 dX5_leastWay_77 rfl ?_
      refine s_sub [1, 2, 0] rfl ?_
      exact hr7 (v2 + 1) x71
    · refine s_iload_n (pc := 67) 2 dX5_leastWay_67 rfl rfl ?_
      exact s_iret (pc := 68) dX5_leastWay_68 rfl rfl
def Rs_leastWay_7   (v1 : Int32)  : Nat → Int32 → PH → Option (Int32 × PH)
  | 0 => fun _ _ => none
  | n + 1 => fun v2 P =>
    if (8 : Int32) ≤ v2 then
      some ((-1 : Int32), P)
    else
      (Dr_lineBy 3 v1 v2 P).bind fun (x19 : Int32) =>
      if x19 = (-1 : Int32) then
        Rs_leastWay_7 v1 n (v2 + 1) P
      else
        if (P.1 75 7) = 0 then
          Rs_leastWay_46 (Rs_leastWay_7 v1 n) v1 v2 x19 (P.2 75 5) P
        else
          Rs_leastWay_46 (Rs_leastWay_7 v1 n) v1 v2 x19 (P.2 75 4) P
set_option maxRecDepth 100000 in
set_option maxHeartbeats 4000000 in
theorem Rs_leastWay_7_sem {G : GT} {l : Launch} (hG : GOK G l)  (v1 : Int32)    : ∀ (n : Nat) (v2 : Int32) (P : PH), Sem G l miX5_leastWay 0 0 (rn tIH) 7 [(0, .ref (gA G 75)), (1, .int v1), (2, .int v2)] [] P (Rs_leastWay_7 v1 n v2 P) := by
  intro n
  induction n with
  | zero => intro v2 P; exact s_none rfl
  | succ n ih =>
    intro v2 P
    rw [Rs_leastWay_7]
    refine s_iload_n (pc := 7) 2 dX5_leastWay_7 rfl rfl ?_
    refine s_bipush (pc := 8) (v := 8) dX5_leastWay_8 rfl ?_
    refine s_icmp_ge (pc := 10) 80 dX5_leastWay_10 rfl ?_ ?_
    · refine s_iconst (pc := 80) (v := -1) dX5_leastWay_80 rfl ?_
      exact s_iret (pc := 81) dX5_leastWay_81 rfl rfl
    · refine s_aload_n (pc := 13) 0 dX5_leastWay_13 rfl rfl ?_
      refine s_getR (pc := 14) 3 dX5_leastWay_14 (fi_X5_15 hG) kd_75 rfl ?_
      refine s_iload_n (pc := 17) 1 dX5_leastWay_17 rfl rfl ?_
      refine s_iload_n (pc := 18) 2 dX5_leastWay_18 rfl rfl ?_
      refine s_callV (k := 0) (n := 0) (pc := 19) [.int v1, .int v2] (fun x19 => .int x19 :: []) (fun _ => P) dX5_leastWay_19 (cV_X5_110 hG) (Nat.le_of_ble_eq_true rfl) rfl kd_3 (Dr_lineBy_ok hG 3 kd_3 v1 v2 P) rfl (fun _ => rfl) (fun _ => rfl) (Nat.le_of_ble_eq_true rfl) rfl rfl (fun x19 => ?_)
      refine s_istore_n (pc := 22) [(3, .int x19), (0, .ref (gA G 75)), (1, .int v1), (2, .int v2)] dX5_leastWay_22 rfl (Nat.le_of_ble_eq_true rfl) rfl ?_
      refine s_iload_n (pc := 23) 0 dX5_leastWay_23 rfl rfl ?_
      refine s_iconst (pc := 24) (v := -1) dX5_leastWay_24 rfl ?_
      refine s_icmp_eq (pc := 25) 74 dX5_leastWay_25 rfl ?_ ?_
      · refine s_iinc (pc := 74) 3 1 [(2, .int (v2 + 1)), (3, .int x19), (0, .ref (gA G 75)), (1, .int v1)] dX5_leastWay_74 rfl rfl (Nat.le_of_ble_eq_true rfl) rfl ?_
        refine s_goto (pc := 77) 7 dX5_leastWay_77 rfl ?_
        refine s_sub [2, 3, 0] rfl ?_
        exact ih (v2 + 1) P
      · refine s_aload_n (pc := 28) 1 dX5_leastWay_28 rfl rfl ?_
        refine s_getI (pc := 29) dX5_leastWay_29 (fi_X5_51 hG) kd_75 ?_
        refine s_if_eq (pc := 32) 42 dX5_leastWay_32 rfl ?_ ?_
        · refine s_aload_n (pc := 42) 1 dX5_leastWay_42 rfl rfl ?_
          refine s_getL (pc := 43) dX5_leastWay_43 (fi_X5_47 hG) kd_75 ?_
          refine s_sub [1, 2, 3, 0] rfl ?_
          exact Rs_leastWay_46_sem hG v1 v2 x19 (P.2 75 5) P (Rs_leastWay_7 v1 n) ih
        · refine s_aload_n (pc := 35) 1 dX5_leastWay_35 rfl rfl ?_
          refine s_getL (pc := 36) dX5_leastWay_36 (fi_X5_43 hG) kd_75 ?_
          refine s_goto (pc := 39) 46 dX5_leastWay_39 rfl ?_
          refine s_sub [1, 2, 3, 0] rfl ?_
          exact Rs_leastWay_46_sem hG v1 v2 x19 (P.2 75 4) P (Rs_leastWay_7 v1 n) ih
def Rs_leastWay   (P : PH) : Option (Int32 × PH) :=
  (some (P.1 75 6)).bind fun (u1_4 : Int32) =>
  Rs_leastWay_7 u1_4 bigN (0 : Int32) P
set_option maxRecDepth 100000 in
set_option maxHeartbeats 4000000 in
theorem Rs_leastWay_ok {G : GT} {l : Launch} (hG : GOK G l)   (P : PH) : OkN G l yX5_leastWay miX5_leastWay 0 0 tIH [.ref (gA G 75)] P (Rs_leastWay P) := by
  refine okN_of hG _ [(0, .ref (gA G 75))] rfl rfl rfl (Nat.le_of_ble_eq_true rfl) rfl ?_
  unfold Rs_leastWay
  refine s_aload_n (pc := 0) 0 dX5_leastWay_0 rfl rfl ?_
  refine s_getI (pc := 1) dX5_leastWay_1 (fi_X5_50 hG) kd_75 ?_
  refine s_letI (fun u1_4 => ?_)
  refine s_istore_n (pc := 4) [(1, .int u1_4), (0, .ref (gA G 75))] dX5_leastWay_4 rfl (Nat.le_of_ble_eq_true rfl) rfl ?_
  refine s_iconst (pc := 5) (v := 0) dX5_leastWay_5 rfl ?_
  refine s_istore_n (pc := 6) [(2, .int ((0 : Int32))), (1, .int u1_4), (0, .ref (gA G 75))] dX5_leastWay_6 rfl (Nat.le_of_ble_eq_true rfl) rfl ?_
  refine s_sub [2, 1, 0] rfl ?_
  exact Rs_leastWay_7_sem hG u1_4 bigN (0 : Int32) P
def Rs_firstWorking_21   (v1 : Int32)  : Nat → Int32 → PH → Option (Int32 × PH)
  | 0 => fun _ _ => none
  | n + 1 => fun v2 P =>
    if v1 ≤ v2 then
      some (v1, P)
    else
      if (120 : Int32) ≤ v2 then
        some (v1, P)
      else
        (Rs_leastWay P).bind fun (x41 : Int32 × PH) =>
        gdI v2 120 <|
        (some (sI x41.2 76 v2.toNatClampNeg (x41.1))).bind fun (P44 : PH) =>
        (some (sI P44 75 9 ((P44.1 75 9) + (1 : Int32)))).bind fun (P52 : PH) =>
        Rs_firstWorking_21 v1 n (v2 + 1) P52
set_option maxRecDepth 100000 in
set_option maxHeartbeats 4000000 in
theorem Rs_firstWorking_21_sem {G : GT} {l : Launch} (hG : GOK G l)  (v1 : Int32)    : ∀ (n : Nat) (v2 : Int32) (P : PH), Sem G l miX5_firstWorking 0 0 (rn tIH) 21 [(0, .ref (gA G 75)), (1, .int v1), (2, .int v2)] [] P (Rs_firstWorking_21 v1 n v2 P) := by
  intro n
  induction n with
  | zero => intro v2 P; exact s_none rfl
  | succ n ih =>
    intro v2 P
    rw [Rs_firstWorking_21]
    refine s_iload_n (pc := 21) 2 dX5_firstWorking_21 rfl rfl ?_
    refine s_iload_n (pc := 22) 1 dX5_firstWorking_22 rfl rfl ?_
    refine s_icmp_ge (pc := 23) 61 dX5_firstWorking_23 rfl ?_ ?_
    · refine s_iload_n (pc := 61) 1 dX5_firstWorking_61 rfl rfl ?_
      exact s_iret (pc := 62) dX5_firstWorking_62 rfl rfl
    · refine s_iload_n (pc := 26) 2 dX5_firstWorking_26 rfl rfl ?_
      refine s_aload_n (pc := 27) 0 dX5_firstWorking_27 rfl rfl ?_
      refine s_getR (pc := 28) 76 dX5_firstWorking_28 (fi_X5_9 hG) kd_75 rfl ?_
      refine s_alen (pc := 31) (t := 1) 120 120 dX5_firstWorking_31 kd_76 (Nat.le_of_ble_eq_true rfl) ln_76 rfl ?_
      refine s_icmp_ge (pc := 32) 61 dX5_firstWorking_32 rfl ?_ ?_
      · refine s_iload_n (pc := 61) 1 dX5_firstWorking_61 rfl rfl ?_
        exact s_iret (pc := 62) dX5_firstWorking_62 rfl rfl
      · refine s_aload_n (pc := 35) 0 dX5_firstWorking_35 rfl rfl ?_
        refine s_getR (pc := 36) 76 dX5_firstWorking_36 (fi_X5_9 hG) kd_75 rfl ?_
        refine s_iload_n (pc := 39) 2 dX5_firstWorking_39 rfl rfl ?_
        refine s_aload_n (pc := 40) 0 dX5_firstWorking_40 rfl rfl ?_
        refine s_callV (k := 0) (n := 0) (pc := 41) [] (fun x41 => .int (x41.1) :: [.int v2, .ref (gA G 76)]) (fun x41 => x41.2) dX5_firstWorking_41 (cV_X5_107 hG) (Nat.le_of_ble_eq_true rfl) rfl kd_75 (Rs_leastWay_ok hG P) rfl (fun _ => rfl) (fun _ => rfl) (Nat.le_of_ble_eq_true rfl) rfl rfl (fun x41 => ?_)
        refine s_iast (pc := 44) 120 dX5_firstWorking_44 kd_76 ln_76 ?_
        refine s_letP (fun P44 => ?_)
        refine s_aload_n (pc := 45) 0 dX5_firstWorking_45 rfl rfl ?_
        refine s_dup (pc := 46) dX5_firstWorking_46 rfl ?_
        refine s_getI (pc := 47) dX5_firstWorking_47 (fi_X5_97 hG) kd_75 ?_
        refine s_iconst (pc := 50) (v := 1) dX5_firstWorking_50 rfl ?_
        refine s_iadd (pc := 51) dX5_firstWorking_51 ?_
        refine s_putI (pc := 52) dX5_firstWorking_52 (fp_X5_97 hG) kd_75 ?_
        refine s_letP (fun P52 => ?_)
        refine s_iinc (pc := 55) 2 1 [(2, .int (v2 + 1)), (0, .ref (gA G 75)), (1, .int v1)] dX5_firstWorking_55 rfl rfl (Nat.le_of_ble_eq_true rfl) rfl ?_
        refine s_goto (pc := 58) 21 dX5_firstWorking_58 rfl ?_
        refine s_sub [1, 2, 0] rfl ?_
        exact ih (v2 + 1) P52
def Rs_firstWorking   (P : PH) : Option (Int32 × PH) :=
  (some (sI P 75 9 (0 : Int32))).bind fun (P2 : PH) =>
  (Rs_endsWell P2).bind fun (x6 : Int32 × PH) =>
  if x6.1 = 0 then
    some ((-1 : Int32), x6.2)
  else
    (Rs_many x6.2).bind fun (x15 : Int32) =>
    Rs_firstWorking_21 x15 bigN (0 : Int32) x6.2
set_option maxRecDepth 100000 in
set_option maxHeartbeats 4000000 in
theorem Rs_firstWorking_ok {G : GT} {l : Launch} (hG : GOK G l)   (P : PH) : OkN G l yX5_firstWorking miX5_firstWorking 0 0 tIH [.ref (gA G 75)] P (Rs_firstWorking P) := by
  refine okN_of hG _ [(0, .ref (gA G 75))] rfl rfl rfl (Nat.le_of_ble_eq_true rfl) rfl ?_
  unfold Rs_firstWorking
  refine s_aload_n (pc := 0) 0 dX5_firstWorking_0 rfl rfl ?_
  refine s_iconst (pc := 1) (v := 0) dX5_firstWorking_1 rfl ?_
  refine s_putI (pc := 2) dX5_firstWorking_2 (fp_X5_97 hG) kd_75 ?_
  refine s_letP (fun P2 => ?_)
  refine s_aload_n (pc := 5) 0 dX5_firstWorking_5 rfl rfl ?_
  refine s_callV (k := 0) (n := 0) (pc := 6) [] (fun x6 => .int (x6.1) :: []) (fun x6 => x6.2) dX5_firstWorking_6 (cV_X5_100 hG) (Nat.le_of_ble_eq_true rfl) rfl kd_75 (Rs_endsWell_ok hG P2) rfl (fun _ => rfl) (fun _ => rfl) (Nat.le_of_ble_eq_true rfl) rfl rfl (fun x6 => ?_)
  refine s_if_ne (pc := 9) 14 dX5_firstWorking_9 rfl ?_ ?_
  · refine s_iconst (pc := 12) (v := -1) dX5_firstWorking_12 rfl ?_
    exact s_iret (pc := 13) dX5_firstWorking_13 rfl rfl
  · refine s_aload_n (pc := 14) 0 dX5_firstWorking_14 rfl rfl ?_
    refine s_callV (k := 0) (n := 0) (pc := 15) [] (fun x15 => .int x15 :: []) (fun _ => x6.2) dX5_firstWorking_15 (cV_X5_103 hG) (Nat.le_of_ble_eq_true rfl) rfl kd_75 (Rs_many_ok hG x6.2) rfl (fun _ => rfl) (fun _ => rfl) (Nat.le_of_ble_eq_true rfl) rfl rfl (fun x15 => ?_)
    refine s_istore_n (pc := 18) [(1, .int x15), (0, .ref (gA G 75))] dX5_firstWorking_18 rfl (Nat.le_of_ble_eq_true rfl) rfl ?_
    refine s_iconst (pc := 19) (v := 0) dX5_firstWorking_19 rfl ?_
    refine s_istore_n (pc := 20) [(2, .int ((0 : Int32))), (1, .int x15), (0, .ref (gA G 75))] dX5_firstWorking_20 rfl (Nat.le_of_ble_eq_true rfl) rfl ?_
    refine s_sub [2, 1, 0] rfl ?_
    exact Rs_firstWorking_21_sem hG x15 bigN (0 : Int32) x6.2
def Rs_workings_42 (rec : Nat → Int64 → Int64 → Int32 → Int32 → Int32 → PH → Option (Int32))  (v0 : Nat) (v1 : Int64) (v3 : Int64) (v5 : Int32) (v6 : Int32) (v7 : Int32) (P : PH) : Nat → Int32 → Int64 → Int32 → Option (Int32)
  | 0 => fun _ _ _ => none
  | n + 1 => fun v8 v9 v11 =>
    if (8 : Int32) ≤ v11 then
      some v8
    else
      if (lg_cmp v9 (0 : Int64)) = 0 then
        some v8
      else
        (some (v9 &&& (-v9))).bind fun (u12_62 : Int64) =>
        (Bs_lowest u12_62 P).bind fun (x67 : Int32) =>
        (Dr_otherEnd v0 x67 v5 P).bind fun (x72 : Int32) =>
        if v6 = 0 then
          (rec v0 v1 (v3 ^^^ u12_62) x72 (1 : Int32) (v7 + (1 : Int32)) P).bind fun (x121 : Int32) =>
          (some (v8 + x121)).bind fun (u8_125 : Int32) =>
          (some (v9 ^^^ u12_62)).bind fun (u9_132 : Int64) =>
          Rs_workings_42 rec v0 v1 v3 v5 v6 v7 P n u8_125 u9_132 (v11 + 1)
        else
          (rec v0 (v1 ^^^ u12_62) v3 x72 (0 : Int32) (v7 + (1 : Int32)) P).bind fun (x97 : Int32) =>
          (some (v8 + x97)).bind fun (u8_101 : Int32) =>
          (some (v9 ^^^ u12_62)).bind fun (u9_132 : Int64) =>
          Rs_workings_42 rec v0 v1 v3 v5 v6 v7 P n u8_101 u9_132 (v11 + 1)
set_option maxRecDepth 100000 in
set_option maxHeartbeats 4000000 in
theorem Rs_workings_42_sem {G : GT} {l : Launch} (hG : GOK G l) (d : Nat) (rec : Nat → Int64 → Int64 → Int32 → Int32 → Int32 → PH → Option (Int32)) (hrec : ∀ (v0 : Nat) (hv0 : kd v0 = 0) (v1 : Int64) (v3 : Int64) (v5 : Int32) (v6 : Int32) (v7 : Int32) (P : PH), OkN G l yX5_workings (miX5_workings (d)) 0 0 (tI P) [.ref (gA G v0), .long v1, .long v3, .int v5, .int v6, .int v7] P (rec v0 v1 v3 v5 v6 v7 P)) (v0 : Nat) (hv0 : kd v0 = 0) (v1 : Int64) (v3 : Int64) (v5 : Int32) (v6 : Int32) (v7 : Int32) (P : PH)   : ∀ (n : Nat) (v8 : Int32) (v9 : Int64) (v11 : Int32), Sem G l (miX5_workings (d + 1)) 0 0 (rn (tI P)) 42 [(0, .ref (gA G v0)), (1, .long v1), (3, .long v3), (5, .int v5), (6, .int v6), (7, .int v7), (8, .int v8), (9, .long v9), (11, .int v11)] [] P (Rs_workings_42 rec v0 v1 v3 v5 v6 v7 P n v8 v9 v11) := by
  intro n
  induction n with
  | zero => intro v8 v9 v11; exact s_none rfl
  | succ n ih =>
    intro v8 v9 v11
    rw [Rs_workings_42]
    refine s_iload (pc := 42) 8 dX5_workings_42 rfl ?_
    refine s_bipush (pc := 44) (v := 8) dX5_workings_44 rfl ?_
    refine s_icmp_ge (pc := 46) 140 dX5_workings_46 rfl ?_ ?_
    · refine s_iload (pc := 140) 6 dX5_workings_140 rfl ?_
      exact s_iret (pc := 142) dX5_workings_142 rfl rfl
    · refine s_lload (pc := 49) 7 dX5_workings_49 rfl ?_
      refine s_lconst (pc := 51) (v := 0) dX5_workings_51 rfl ?_
      refine s_lcmp (pc := 52) dX5_workings_52 ?_
      refine s_if_eq (pc := 53) 140 dX5_workings_53 rfl ?_ ?_
      · refine s_iload (pc := 140) 6 dX5_workings_140 rfl ?_
        exact s_iret (pc := 142) dX5_workings_142 rfl rfl
      · refine s_lload (pc := 56) 7 dX5_workings_56 rfl ?_
        refine s_lload (pc := 58) 7 dX5_workings_58 rfl ?_
        refine s_lneg (pc := 60) dX5_workings_60 ?_
        refine s_land (pc := 61) dX5_workings_61 ?_
        refine s_letL (fun u12_62 => ?_)
        refine s_lstore (pc := 62) [(12, .long u12_62), (0, .ref (gA G v0)), (1, .long v1), (3, .long v3), (5, .int v5), (6, .int v6), (7, .int v7), (8, .int v8), (9, .long v9), (11, .int v11)] dX5_workings_62 (Nat.le_of_ble_eq_true rfl) rfl ?_
        refine s_aload_n (pc := 64) 1 dX5_workings_64 rfl rfl ?_
        refine s_lload (pc := 65) 0 dX5_workings_65 rfl ?_
        refine s_callSN (k := 0) (n := 0) (pc := 67) [.long u12_62] (fun x67 => .int x67 :: [.ref (gA G v0)]) (fun _ => P) dX5_workings_67 (cSN_X5_87 hG) (by simp only [hiOf, miX5_workings, miX10_lowest]; omega) rfl (Bs_lowest_ok hG u12_62 P) rfl (fun _ => rfl) (fun _ => rfl) (Nat.le_of_ble_eq_true rfl) rfl rfl (fun x67 => ?_)
        refine s_iload (pc := 70) 4 dX5_workings_70 rfl ?_
        refine s_callV (k := 0) (n := 0) (pc := 72) [.int x67, .int v5] (fun x72 => .int x72 :: []) (fun _ => P) dX5_workings_72 (cV_X5_124 hG) (by simp only [hiOf, miX5_workings, miX0_otherEnd]; omega) rfl hv0 (Dr_otherEnd_ok hG v0 hv0 x67 v5 P) rfl (fun _ => rfl) (fun _ => rfl) (Nat.le_of_ble_eq_true rfl) rfl rfl (fun x72 => ?_)
        refine s_istore (pc := 75) [(14, .int x72), (12, .long u12_62), (0, .ref (gA G v0)), (1, .long v1), (3, .long v3), (5, .int v5), (6, .int v6), (7, .int v7), (8, .int v8), (9, .long v9), (11, .int v11)] dX5_workings_75 (Nat.le_of_ble_eq_true rfl) rfl ?_
        refine s_iload (pc := 77) 6 dX5_workings_77 rfl ?_
        refine s_if_eq (pc := 79) 106 dX5_workings_79 rfl ?_ ?_
        · refine s_iload (pc := 106) 8 dX5_workings_106 rfl ?_
          refine s_aload_n (pc := 108) 2 dX5_workings_108 rfl rfl ?_
          refine s_lload_n (pc := 109) 3 dX5_workings_109 rfl rfl ?_
          refine s_lload_n (pc := 110) 4 dX5_workings_110 rfl rfl ?_
          refine s_lload (pc := 111) 1 dX5_workings_111 rfl ?_
          refine s_lxor (pc := 113) dX5_workings_113 ?_
          refine s_iload (pc := 114) 0 dX5_workings_114 rfl ?_
          refine s_iconst (pc := 116) (v := 1) dX5_workings_116 rfl ?_
          refine s_iload (pc := 117) 7 dX5_workings_117 rfl ?_
          refine s_iconst (pc := 119) (v := 1) dX5_workings_119 rfl ?_
          refine s_iadd (pc := 120) dX5_workings_120 ?_
          refine s_callS (k := 0) (n := 0) (pc := 121) [.ref (gA G v0), .long v1, .long (v3 ^^^ u12_62), .int x72, .int ((1 : Int32)), .int (v7 + (1 : Int32))] (fun x121 => .int x121 :: [.int v8]) (fun _ => P) dX5_workings_121 (cS_X5_127 hG d) (by simp only [hiOf, miX5_workings, miX5_workings]; omega) rfl (hrec v0 hv0 v1 (v3 ^^^ u12_62) x72 (1 : Int32) (v7 + (1 : Int32)) P) rfl (fun _ => rfl) (fun _ => rfl) (Nat.le_of_ble_eq_true rfl) rfl rfl (fun x121 => ?_)
          refine s_iadd (pc := 124) dX5_workings_124 ?_
          refine s_letI (fun u8_125 => ?_)
          refine s_istore (pc := 125) [(8, .int u8_125), (14, .int x72), (12, .long u12_62), (0, .ref (gA G v0)), (1, .long v1), (3, .long v3), (5, .int v5), (6, .int v6), (7, .int v7), (9, .long v9), (11, .int v11)] dX5_workings_125 (Nat.le_of_ble_eq_true rfl) rfl ?_
          refine s_lload (pc := 127) 9 dX5_workings_127 rfl ?_
          refine s_lload (pc := 129) 2 dX5_workings_129 rfl ?_
          refine s_lxor (pc := 131) dX5_workings_131 ?_
          refine s_letL (fun u9_132 => ?_)
          refine s_lstore (pc := 132) [(9, .long u9_132), (8, .int u8_125), (14, .int x72), (12, .long u12_62), (0, .ref (gA G v0)), (1, .long v1), (3, .long v3), (5, .int v5), (6, .int v6), (7, .int v7), (11, .int v11)] dX5_workings_132 (Nat.le_of_ble_eq_true rfl) rfl ?_
          refine s_iinc (pc := 134) 10 1 [(11, .int (v11 + 1)), (9, .long u9_132), (8, .int u8_125), (14, .int x72), (12, .long u12_62), (0, .ref (gA G v0)), (1, .long v1), (3, .long v3), (5, .int v5), (6, .int v6), (7, .int v7)] dX5_workings_134 rfl rfl (Nat.le_of_ble_eq_true rfl) rfl ?_
          refine s_goto (pc := 137) 42 dX5_workings_137 rfl ?_
          refine s_sub [5, 6, 7, 8, 9, 10, 2, 1, 0] rfl ?_
          exact ih u8_125 u9_132 (v11 + 1)
        · refine s_iload (pc := 82) 8 dX5_workings_82 rfl ?_
          refine s_aload_n (pc := 84) 2 dX5_workings_84 rfl rfl ?_
          refine s_lload_n (pc := 85) 3 dX5_workings_85 rfl rfl ?_
          refine s_lload (pc := 86) 1 dX5_workings_86 rfl ?_
          refine s_lxor (pc := 88) dX5_workings_88 ?_
          refine s_lload_n (pc := 89) 4 dX5_workings_89 rfl rfl ?_
          refine s_iload (pc := 90) 0 dX5_workings_90 rfl ?_
          refine s_iconst (pc := 92) (v := 0) dX5_workings_92 rfl ?_
          refine s_iload (pc := 93) 7 dX5_workings_93 rfl ?_
          refine s_iconst (pc := 95) (v := 1) dX5_workings_95 rfl ?_
          refine s_iadd (pc := 96) dX5_workings_96 ?_
          refine s_callS (k := 0) (n := 0) (pc := 97) [.ref (gA G v0), .long (v1 ^^^ u12_62), .long v3, .int x72, .int ((0 : Int32)), .int (v7 + (1 : Int32))] (fun x97 => .int x97 :: [.int v8]) (fun _ => P) dX5_workings_97 (cS_X5_127 hG d) (by simp only [hiOf, miX5_workings, miX5_workings]; omega) rfl (hrec v0 hv0 (v1 ^^^ u12_62) v3 x72 (0 : Int32) (v7 + (1 : Int32)) P) rfl (fun _ => rfl) (fun _ => rfl) (Nat.le_of_ble_eq_true rfl) rfl rfl (fun x97 => ?_)
          refine s_iadd (pc := 100) dX5_workings_100 ?_
          refine s_letI (fun u8_101 => ?_)
          refine s_istore (pc := 101) [(8, .int u8_101), (14, .int x72), (12, .long u12_62), (0, .ref (gA G v0)), (1, .long v1), (3, .long v3), (5, .int v5), (6, .int v6), (7, .int v7), (9, .long v9), (11, .int v11)] dX5_workings_101 (Nat.le_of_ble_eq_true rfl) rfl ?_
          refine s_goto (pc := 103) 127 dX5_workings_103 rfl ?_
          refine s_lload (pc := 127) 9 dX5_workings_127 rfl ?_
          refine s_lload (pc := 129) 2 dX5_workings_129 rfl ?_
          refine s_lxor (pc := 131) dX5_workings_131 ?_
          refine s_letL (fun u9_132 => ?_)
          refine s_lstore (pc := 132) [(9, .long u9_132), (8, .int u8_101), (14, .int x72), (12, .long u12_62), (0, .ref (gA G v0)), (1, .long v1), (3, .long v3), (5, .int v5), (6, .int v6), (7, .int v7), (11, .int v11)] dX5_workings_132 (Nat.le_of_ble_eq_true rfl) rfl ?_
          refine s_iinc (pc := 134) 10 1 [(11, .int (v11 + 1)), (9, .long u9_132), (8, .int u8_101), (14, .int x72), (12, .long u12_62), (0, .ref (gA G v0)), (1, .long v1), (3, .long v3), (5, .int v5), (6, .int v6), (7, .int v7)] dX5_workings_134 rfl rfl (Nat.le_of_ble_eq_true rfl) rfl ?_
          refine s_goto (pc := 137) 42 dX5_workings_137 rfl ?_
          refine s_sub [5, 6, 7, 8, 9, 10, 2, 1, 0] rfl ?_
          exact ih u8_101 u9_132 (v11 + 1)
def Rs_workings_step (rec : Nat → Int64 → Int64 → Int32 → Int32 → Int32 → PH → Option (Int32)) (v0 : Nat) (v1 : Int64) (v3 : Int64) (v5 : Int32) (v6 : Int32) (v7 : Int32) (P : PH) : Option (Int32) :=
  if (lg_cmp (v1 ||| v3) (0 : Int64)) = 0 then
    some (1 : Int32)
  else
    if v7 ≤ (16 : Int32) then
      (Dr_linesAt v0 v5 P).bind fun (x23 : Int64) =>
      if v6 = 0 then
        (some (x23 &&& v3)).bind fun (u9_37 : Int64) =>
        Rs_workings_42 rec v0 v1 v3 v5 v6 v7 P bigN (0 : Int32) u9_37 (0 : Int32)
      else
        (some (x23 &&& v1)).bind fun (u9_37 : Int64) =>
        Rs_workings_42 rec v0 v1 v3 v5 v6 v7 P bigN (0 : Int32) u9_37 (0 : Int32)
    else
      some (1 : Int32)
def Rs_workings : Nat → Nat → Int64 → Int64 → Int32 → Int32 → Int32 → PH → Option (Int32)
  | 0 => fun _ _ _ _ _ _ _ => none
  | d + 1 => fun v0 v1 v3 v5 v6 v7 P => Rs_workings_step (Rs_workings d) v0 v1 v3 v5 v6 v7 P
set_option maxRecDepth 100000 in
set_option maxHeartbeats 4000000 in
theorem Rs_workings_step_ok {G : GT} {l : Launch} (hG : GOK G l) (d : Nat) (rec : Nat → Int64 → Int64 → Int32 → Int32 → Int32 → PH → Option (Int32)) (hrec : ∀ (v0 : Nat) (hv0 : kd v0 = 0) (v1 : Int64) (v3 : Int64) (v5 : Int32) (v6 : Int32) (v7 : Int32) (P : PH), OkN G l yX5_workings (miX5_workings (d)) 0 0 (tI P) [.ref (gA G v0), .long v1, .long v3, .int v5, .int v6, .int v7] P (rec v0 v1 v3 v5 v6 v7 P)) (v0 : Nat) (hv0 : kd v0 = 0) (v1 : Int64) (v3 : Int64) (v5 : Int32) (v6 : Int32) (v7 : Int32) (P : PH) : OkN G l yX5_workings (miX5_workings (d + 1)) 0 0 (tI P) [.ref (gA G v0), .long v1, .long v3, .int v5, .int v6, .int v7] P (Rs_workings_step rec v0 v1 v3 v5 v6 v7 P) := by
  refine okN_of hG _ [(0, .ref (gA G v0)), (1, .long v1), (3, .long v3), (5, .int v5), (6, .int v6), (7, .int v7)] rfl rfl rfl (Nat.le_of_ble_eq_true rfl) rfl ?_
  unfold Rs_workings_step
  refine s_lload_n (pc := 0) 1 dX5_workings_0 rfl rfl ?_
  refine s_lload_n (pc := 1) 2 dX5_workings_1 rfl rfl ?_
  refine s_lor (pc := 2) dX5_workings_2 ?_
  refine s_lconst (pc := 3) (v := 0) dX5_workings_3 rfl ?_
  refine s_lcmp (pc := 4) dX5_workings_4 ?_
  refine s_if_eq (pc := 5) 15 dX5_workings_5 rfl ?_ ?_
  · refine s_iconst (pc := 15) (v := 1) dX5_workings_15 rfl ?_
    exact s_iret (pc := 16) dX5_workings_16 rfl rfl
  · refine s_iload (pc := 8) 5 dX5_workings_8 rfl ?_
    refine s_bipush (pc := 10) (v := 16) dX5_workings_10 rfl ?_
    refine s_icmp_le (pc := 12) 17 dX5_workings_12 rfl ?_ ?_
    · refine s_iconst (pc := 17) (v := 0) dX5_workings_17 rfl ?_
      refine s_istore (pc := 18) [(8, .int ((0 : Int32))), (0, .ref (gA G v0)), (1, .long v1), (3, .long v3), (5, .int v5), (6, .int v6), (7, .int v7)] dX5_workings_18 (Nat.le_of_ble_eq_true rfl) rfl ?_
      refine s_aload_n (pc := 20) 1 dX5_workings_20 rfl rfl ?_
      refine s_iload (pc := 21) 4 dX5_workings_21 rfl ?_
      refine s_callV (k := 0) (n := 0) (pc := 23) [.int v5] (fun x23 => .long x23 :: []) (fun _ => P) dX5_workings_23 (cV_X5_94 hG) (by simp only [hiOf, miX5_workings, miX0_linesAt]; omega) rfl hv0 (Dr_linesAt_ok hG v0 hv0 v5 P) rfl (fun _ => rfl) (fun _ => rfl) (Nat.le_of_ble_eq_true rfl) rfl rfl (fun x23 => ?_)
      refine s_iload (pc := 26) 5 dX5_workings_26 rfl ?_
      refine s_if_eq (pc := 28) 35 dX5_workings_28 rfl ?_ ?_
      · refine s_lload_n (pc := 35) 3 dX5_workings_35 rfl rfl ?_
        refine s_land (pc := 36) dX5_workings_36 ?_
        refine s_letL (fun u9_37 => ?_)
        refine s_lstore (pc := 37) [(9, .long u9_37), (8, .int ((0 : Int32))), (0, .ref (gA G v0)), (1, .long v1), (3, .long v3), (5, .int v5), (6, .int v6), (7, .int v7)] dX5_workings_37 (Nat.le_of_ble_eq_true rfl) rfl ?_
        refine s_iconst (pc := 39) (v := 0) dX5_workings_39 rfl ?_
        refine s_istore (pc := 40) [(11, .int ((0 : Int32))), (9, .long u9_37), (8, .int ((0 : Int32))), (0, .ref (gA G v0)), (1, .long v1), (3, .long v3), (5, .int v5), (6, .int v6), (7, .int v7)] dX5_workings_40 (Nat.le_of_ble_eq_true rfl) rfl ?_
        refine s_sub [3, 4, 5, 6, 7, 8, 2, 1, 0] rfl ?_
        exact Rs_workings_42_sem hG d rec hrec v0 hv0 v1 v3 v5 v6 v7 P bigN (0 : Int32) u9_37 (0 : Int32)
      · refine s_lload_n (pc := 31) 2 dX5_workings_31 rfl rfl ?_
        refine s_goto (pc := 32) 36 dX5_workings_32 rfl ?_
        refine s_land (pc := 36) dX5_workings_36 ?_
        refine s_letL (fun u9_37 => ?_)
        refine s_lstore (pc := 37) [(9, .long u9_37), (8, .int ((0 : Int32))), (0, .ref (gA G v0)), (1, .long v1), (3, .long v3), (5, .int v5), (6, .int v6), (7, .int v7)] dX5_workings_37 (Nat.le_of_ble_eq_true rfl) rfl ?_
        refine s_iconst (pc := 39) (v := 0) dX5_workings_39 rfl ?_
        refine s_istore (pc := 40) [(11, .int ((0 : Int32))), (9, .long u9_37), (8, .int ((0 : Int32))), (0, .ref (gA G v0)), (1, .long v1), (3, .long v3), (5, .int v5), (6, .int v6), (7, .int v7)] dX5_workings_40 (Nat.le_of_ble_eq_true rfl) rfl ?_
        refine s_sub [3, 4, 5, 6, 7, 8, 2, 1, 0] rfl ?_
        exact Rs_workings_42_sem hG d rec hrec v0 hv0 v1 v3 v5 v6 v7 P bigN (0 : Int32) u9_37 (0 : Int32)
    · refine s_iconst (pc := 15) (v := 1) dX5_workings_15 rfl ?_
      exact s_iret (pc := 16) dX5_workings_16 rfl rfl
set_option maxRecDepth 100000 in
set_option maxHeartbeats 4000000 in
theorem Rs_workings_ok {G : GT} {l : Launch} (hG : GOK G l) : ∀ (d : Nat) (v0 : Nat) (hv0 : kd v0 = 0) (v1 : Int64) (v3 : Int64) (v5 : Int32) (v6 : Int32) (v7 : Int32) (P : PH), OkN G l yX5_workings (miX5_workings d) 0 0 (tI P) [.ref (gA G v0), .long v1, .long v3, .int v5, .int v6, .int v7] P (Rs_workings d v0 v1 v3 v5 v6 v7 P) := by
  intro d
  induction d with
  | zero => intro v0 hv0 v1 v3 v5 v6 v7 P z hz; cases hz
  | succ d ih => intro v0 hv0 v1 v3 v5 v6 v7 P; exact Rs_workings_step_ok hG d (Rs_workings d) ih v0 hv0 v1 v3 v5 v6 v7 P
def Rs_countWorkings   (P : PH) : Option (Int32 × PH) :=
  (Rs_many P).bind fun (x1 : Int32) =>
  if x1 ≤ (16 : Int32) then
    (Rs_endsWell P).bind fun (x13 : Int32 × PH) =>
    if x13.1 = 0 then
      some ((0 : Int32), x13.2)
    else
      (Rs_workings 20 3 (x13.2.2 75 4) (x13.2.2 75 5) (x13.2.1 75 6) (x13.2.1 75 7) (0 : Int32) x13.2).bind fun (x40 : Int32) =>
      some (x40, x13.2)
  else
    some ((-2 : Int32), P)
set_option maxRecDepth 100000 in
set_option maxHeartbeats 4000000 in
theorem Rs_countWorkings_ok {G : GT} {l : Launch} (hG : GOK G l)   (P : PH) : OkN G l yX5_countWorkings miX5_countWorkings 0 0 tIH [.ref (gA G 75)] P (Rs_countWorkings P) := by
  refine okN_of hG _ [(0, .ref (gA G 75))] rfl rfl rfl (Nat.le_of_ble_eq_true rfl) rfl ?_
  unfold Rs_countWorkings
  refine s_aload_n (pc := 0) 0 dX5_countWorkings_0 rfl rfl ?_
  refine s_callV (k := 0) (n := 0) (pc := 1) [] (fun x1 => .int x1 :: []) (fun _ => P) dX5_countWorkings_1 (cV_X5_103 hG) (Nat.le_of_ble_eq_true rfl) rfl kd_75 (Rs_many_ok hG P) rfl (fun _ => rfl) (fun _ => rfl) (Nat.le_of_ble_eq_true rfl) rfl rfl (fun x1 => ?_)
  refine s_bipush (pc := 4) (v := 16) dX5_countWorkings_4 rfl ?_
  refine s_icmp_le (pc := 6) 12 dX5_countWorkings_6 rfl ?_ ?_
  · refine s_aload_n (pc := 12) 0 dX5_countWorkings_12 rfl rfl ?_
    refine s_callV (k := 0) (n := 0) (pc := 13) [] (fun x13 => .int (x13.1) :: []) (fun x13 => x13.2) dX5_countWorkings_13 (cV_X5_100 hG) (Nat.le_of_ble_eq_true rfl) rfl kd_75 (Rs_endsWell_ok hG P) rfl (fun _ => rfl) (fun _ => rfl) (Nat.le_of_ble_eq_true rfl) rfl rfl (fun x13 => ?_)
    refine s_if_eq (pc := 16) 46 dX5_countWorkings_16 rfl ?_ ?_
    · refine s_iconst (pc := 46) (v := 0) dX5_countWorkings_46 rfl ?_
      exact s_iret (pc := 47) dX5_countWorkings_47 rfl rfl
    · refine s_aload_n (pc := 19) 0 dX5_countWorkings_19 rfl rfl ?_
      refine s_getR (pc := 20) 3 dX5_countWorkings_20 (fi_X5_15 hG) kd_75 rfl ?_
      refine s_aload_n (pc := 23) 0 dX5_countWorkings_23 rfl rfl ?_
      refine s_getL (pc := 24) dX5_countWorkings_24 (fi_X5_43 hG) kd_75 ?_
      refine s_aload_n (pc := 27) 0 dX5_countWorkings_27 rfl rfl ?_
      refine s_getL (pc := 28) dX5_countWorkings_28 (fi_X5_47 hG) kd_75 ?_
      refine s_aload_n (pc := 31) 0 dX5_countWorkings_31 rfl rfl ?_
      refine s_getI (pc := 32) dX5_countWorkings_32 (fi_X5_50 hG) kd_75 ?_
      refine s_aload_n (pc := 35) 0 dX5_countWorkings_35 rfl rfl ?_
      refine s_getI (pc := 36) dX5_countWorkings_36 (fi_X5_51 hG) kd_75 ?_
      refine s_iconst (pc := 39) (v := 0) dX5_countWorkings_39 rfl ?_
      refine s_callS (k := 0) (n := 0) (pc := 40) [.ref (gA G 3), .long (x13.2.2 75 4), .long (x13.2.2 75 5), .int (x13.2.1 75 6), .int (x13.2.1 75 7), .int ((0 : Int32))] (fun x40 => .int x40 :: []) (fun _ => x13.2) dX5_countWorkings_40 (cS_X5_127 hG 20) (by simp only [hiOf, miX5_countWorkings, miX5_workings]; omega) rfl (Rs_workings_ok hG 20 3 kd_3 (x13.2.2 75 4) (x13.2.2 75 5) (x13.2.1 75 6) (x13.2.1 75 7) (0 : Int32) x13.2) rfl (fun _ => rfl) (fun _ => rfl) (Nat.le_of_ble_eq_true rfl) rfl rfl (fun x40 => ?_)
      refine s_goto (pc := 43) 47 dX5_countWorkings_43 rfl ?_
      exact s_iret (pc := 47) dX5_countWorkings_47 rfl rfl
  · refine s_bipush (pc := 9) (v := (-2)) dX5_countWorkings_9 rfl ?_
    exact s_iret (pc := 11) dX5_countWorkings_11 rfl rfl
def Rs_countPlaces_43  (r5 : Int32 → Int32 → PH → Option (Int32 × PH)) (v1 : Nat) (v2 : Int32) (v4 : Int32) (s0 : Int32) (s1 : Int32) (P : PH) : Option (Int32 × PH) :=
  (some (s1 + s0)).bind fun (u3_44 : Int32) =>
  (Ne_openOver v1 v2 P).bind fun (x48 : Int64) =>
  (Ne_openUnder v1 v2 P).bind fun (x53 : Int64) =>
  (Rs_put x48 x53 v4 (0 : Int32) P).bind fun (x59 : PH) =>
  (Rs_endsWell x59).bind fun (x64 : Int32 × PH) =>
  if x64.1 = 0 then
    (some (u3_44 + (0 : Int32))).bind fun (u3_76 : Int32) =>
    r5 u3_76 (v4 + 1) x64.2
  else
    (some (u3_44 + (1 : Int32))).bind fun (u3_76 : Int32) =>
    r5 u3_76 (v4 + 1) x64.2
set_option maxRecDepth 100000 in
set_option maxHeartbeats 4000000 in
theorem Rs_countPlaces_43_sem {G : GT} {l : Launch} (hG : GOK G l)  (v1 : Nat) (hv1 : kd v1 = 2) (v2 : Int32) (v4 : Int32) (s0 : Int32) (s1 : Int32) (P : PH)  (r5 : Int32 → Int32 → PH → Option (Int32 × PH)) (hr5 : ∀ (v3 : Int32) (v4 : Int32) (P : PH), Sem G l miX5_countPlaces 0 0 (rn tIH) 5 [(0, .ref (gA G 75)), (1, .ref (gA G v1)), (2, .int v2), (3, .int v3), (4, .int v4)] [] P (r5 v3 v4 P)) : Sem G l miX5_countPlaces 0 0 (rn tIH) 43 [(0, .ref (gA G 75)), (1, .ref (gA G v1)), (2, .int v2), (4, .int v4)] [.int s0, .int s1] P (Rs_countPlaces_43 r5 v1 v2 v4 s0 s1 P) := by
  unfold Rs_countPlaces_43
  refine s_iadd (pc := 43) dX5_countPlaces_43 ?_
  refine s_letI (fun u3_44 => ?_)
  refine s_istore_n (pc := 44) [(3, .int u3_44), (0, .ref (gA G 75)), (1, .ref (gA G v1)), (2, .int v2), (4, .int v4)] dX5_countPlaces_44 rfl (Nat.le_of_ble_eq_true rfl) rfl ?_
  refine s_aload_n (pc := 45) 1 dX5_countPlaces_45 rfl rfl ?_
  refine s_aload_n (pc := 46) 2 dX5_countPlaces_46 rfl rfl ?_
  refine s_iload_n (pc := 47) 3 dX5_countPlaces_47 rfl rfl ?_
  refine s_callV (k := 0) (n := 0) (pc := 48) [.int v2] (fun x48 => .long x48 :: [.ref (gA G 75)]) (fun _ => P) dX5_countPlaces_48 (cV_X5_25 hG) (Nat.le_of_ble_eq_true rfl) rfl hv1 (Ne_openOver_ok hG v1 hv1 v2 P) rfl (fun _ => rfl) (fun _ => rfl) (Nat.le_of_ble_eq_true rfl) rfl rfl (fun x48 => ?_)
  refine s_aload_n (pc := 51) 2 dX5_countPlaces_51 rfl rfl ?_
  refine s_iload_n (pc := 52) 3 dX5_countPlaces_52 rfl rfl ?_
  refine s_callV (k := 0) (n := 0) (pc := 53) [.int v2] (fun x53 => .long x53 :: [.long x48, .ref (gA G 75)]) (fun _ => P) dX5_countPlaces_53 (cV_X5_29 hG) (Nat.le_of_ble_eq_true rfl) rfl hv1 (Ne_openUnder_ok hG v1 hv1 v2 P) rfl (fun _ => rfl) (fun _ => rfl) (Nat.le_of_ble_eq_true rfl) rfl rfl (fun x53 => ?_)
  refine s_iload (pc := 56) 4 dX5_countPlaces_56 rfl ?_
  refine s_iconst (pc := 58) (v := 0) dX5_countPlaces_58 rfl ?_
  refine s_callV (k := 0) (n := 0) (pc := 59) [.long x48, .long x53, .int v4, .int ((0 : Int32))] (fun _ => []) (fun x59 => x59) dX5_countPlaces_59 (cV_X5_39 hG) (Nat.le_of_ble_eq_true rfl) rfl kd_75 (Rs_put_ok hG x48 x53 v4 (0 : Int32) P) rfl (fun _ => rfl) (fun _ => rfl) (Nat.le_of_ble_eq_true rfl) rfl rfl (fun x59 => ?_)
  refine s_iload_n (pc := 62) 0 dX5_countPlaces_62 rfl rfl ?_
  refine s_aload_n (pc := 63) 1 dX5_countPlaces_63 rfl rfl ?_
  refine s_callV (k := 0) (n := 0) (pc := 64) [] (fun x64 => .int (x64.1) :: [.int u3_44]) (fun x64 => x64.2) dX5_countPlaces_64 (cV_X5_100 hG) (Nat.le_of_ble_eq_true rfl) rfl kd_75 (Rs_endsWell_ok hG x59) rfl (fun _ => rfl) (fun _ => rfl) (Nat.le_of_ble_eq_true rfl) rfl rfl (fun x64 => ?_)
  refine s_if_eq (pc := 67) 74 dX5_countPlaces_67 rfl ?_ ?_
  · refine s_iconst (pc := 74) (v := 0) dX5_countPlaces_74 rfl ?_
    refine s_iadd (pc := 75) dX5_countPlaces_75 ?_
    refine s_letI (fun u3_76 => ?_)
    refine s_istore_n (pc := 76) [(3, .int u3_76), (0, .ref (gA G 75)), (1, .ref (gA G v1)), (2, .int v2), (4, .int v4)] dX5_countPlaces_76 rfl (Nat.le_of_ble_eq_true rfl) rfl ?_
    refine s_iinc (pc := 77) 4 1 [(4, .int (v4 + 1)), (3, .int u3_76), (0, .ref (gA G 75)), (1, .ref (gA G v1)), (2, .int v2)] dX5_countPlaces_77 rfl rfl (Nat.le_of_ble_eq_true rfl) rfl ?_
    refine s_goto (pc := 80) 5 dX5_countPlaces_80 rfl ?_
    refine s_sub [2, 3, 4, 1, 0] rfl ?_
    exact hr5 u3_76 (v4 + 1) x64.2
  · refine s_iconst (pc := 70) (v := 1) dX5_countPlaces_70 rfl ?_
    refine s_goto (pc := 71) 75 dX5_countPlaces_71 rfl ?_
    refine s_iadd (pc := 75) dX5_countPlaces_75 ?_
    refine s_letI (fun u3_76 => ?_)
    refine s_istore_n (pc := 76) [(3, .int u3_76), (0, .ref (gA G 75)), (1, .ref (gA G v1)), (2, .int v2), (4, .int v4)] dX5_countPlaces_76 rfl (Nat.le_of_ble_eq_true rfl) rfl ?_
    refine s_iinc (pc := 77) 4 1 [(4, .int (v4 + 1)), (3, .int u3_76), (0, .ref (gA G 75)), (1, .ref (gA G v1)), (2, .int v2)] dX5_countPlaces_77 rfl rfl (Nat.le_of_ble_eq_true rfl) rfl ?_
    refine s_goto (pc := 80) 5 dX5_countPlaces_80 rfl ?_
    refine s_sub [2, 3, 4, 1, 0] rfl ?_
    exact hr5 u3_76 (v4 + 1) x64.2
def Rs_countPlaces_5   (v1 : Nat) (v2 : Int32)  : Nat → Int32 → Int32 → PH → Option (Int32 × PH)
  | 0 => fun _ _ _ => none
  | n + 1 => fun v3 v4 P =>
    if (144 : Int32) ≤ v4 then
      some (v3, P)
    else
      (Ne_openOver v1 v2 P).bind fun (x16 : Int64) =>
      (Ne_openUnder v1 v2 P).bind fun (x21 : Int64) =>
      (Rs_put x16 x21 v4 (1 : Int32) P).bind fun (x27 : PH) =>
      (Rs_endsWell x27).bind fun (x32 : Int32 × PH) =>
      if x32.1 = 0 then
        Rs_countPlaces_43 (Rs_countPlaces_5 v1 v2 n) v1 v2 v4 (0 : Int32) v3 x32.2
      else
        Rs_countPlaces_43 (Rs_countPlaces_5 v1 v2 n) v1 v2 v4 (1 : Int32) v3 x32.2
set_option maxRecDepth 100000 in
set_option maxHeartbeats 4000000 in
theorem Rs_countPlaces_5_sem {G : GT} {l : Launch} (hG : GOK G l)  (v1 : Nat) (hv1 : kd v1 = 2) (v2 : Int32)    : ∀ (n : Nat) (v3 : Int32) (v4 : Int32) (P : PH), Sem G l miX5_countPlaces 0 0 (rn tIH) 5 [(0, .ref (gA G 75)), (1, .ref (gA G v1)), (2, .int v2), (3, .int v3), (4, .int v4)] [] P (Rs_countPlaces_5 v1 v2 n v3 v4 P) := by
  intro n
  induction n with
  | zero => intro v3 v4 P; exact s_none rfl
  | succ n ih =>
    intro v3 v4 P
    rw [Rs_countPlaces_5]
    refine s_iload (pc := 5) 4 dX5_countPlaces_5 rfl ?_
    refine s_sipush (pc := 7) (v := 144) dX5_countPlaces_7 rfl ?_
    refine s_icmp_ge (pc := 10) 83 dX5_countPlaces_10 rfl ?_ ?_
    · refine s_iload_n (pc := 83) 3 dX5_countPlaces_83 rfl rfl ?_
      exact s_iret (pc := 84) dX5_countPlaces_84 rfl rfl
    · refine s_aload_n (pc := 13) 0 dX5_countPlaces_13 rfl rfl ?_
      refine s_aload_n (pc := 14) 1 dX5_countPlaces_14 rfl rfl ?_
      refine s_iload_n (pc := 15) 2 dX5_countPlaces_15 rfl rfl ?_
      refine s_callV (k := 0) (n := 0) (pc := 16) [.int v2] (fun x16 => .long x16 :: [.ref (gA G 75)]) (fun _ => P) dX5_countPlaces_16 (cV_X5_25 hG) (Nat.le_of_ble_eq_true rfl) rfl hv1 (Ne_openOver_ok hG v1 hv1 v2 P) rfl (fun _ => rfl) (fun _ => rfl) (Nat.le_of_ble_eq_true rfl) rfl rfl (fun x16 => ?_)
      refine s_aload_n (pc := 19) 1 dX5_countPlaces_19 rfl rfl ?_
      refine s_iload_n (pc := 20) 2 dX5_countPlaces_20 rfl rfl ?_
      refine s_callV (k := 0) (n := 0) (pc := 21) [.int v2] (fun x21 => .long x21 :: [.long x16, .ref (gA G 75)]) (fun _ => P) dX5_countPlaces_21 (cV_X5_29 hG) (Nat.le_of_ble_eq_true rfl) rfl hv1 (Ne_openUnder_ok hG v1 hv1 v2 P) rfl (fun _ => rfl) (fun _ => rfl) (Nat.le_of_ble_eq_true rfl) rfl rfl (fun x21 => ?_)
      refine s_iload (pc := 24) 4 dX5_countPlaces_24 rfl ?_
      refine s_iconst (pc := 26) (v := 1) dX5_countPlaces_26 rfl ?_
      refine s_callV (k := 0) (n := 0) (pc := 27) [.long x16, .long x21, .int v4, .int ((1 : Int32))] (fun _ => []) (fun x27 => x27) dX5_countPlaces_27 (cV_X5_39 hG) (Nat.le_of_ble_eq_true rfl) rfl kd_75 (Rs_put_ok hG x16 x21 v4 (1 : Int32) P) rfl (fun _ => rfl) (fun _ => rfl) (Nat.le_of_ble_eq_true rfl) rfl rfl (fun x27 => ?_)
      refine s_iload_n (pc := 30) 3 dX5_countPlaces_30 rfl rfl ?_
      refine s_aload_n (pc := 31) 0 dX5_countPlaces_31 rfl rfl ?_
      refine s_callV (k := 0) (n := 0) (pc := 32) [] (fun x32 => .int (x32.1) :: [.int v3]) (fun x32 => x32.2) dX5_countPlaces_32 (cV_X5_100 hG) (Nat.le_of_ble_eq_true rfl) rfl kd_75 (Rs_endsWell_ok hG x27) rfl (fun _ => rfl) (fun _ => rfl) (Nat.le_of_ble_eq_true rfl) rfl rfl (fun x32 => ?_)
      refine s_if_eq (pc := 35) 42 dX5_countPlaces_35 rfl ?_ ?_
      · refine s_iconst (pc := 42) (v := 0) dX5_countPlaces_42 rfl ?_
        refine s_sub [0, 1, 2, 4] rfl ?_
        exact Rs_countPlaces_43_sem hG v1 hv1 v2 v4 (0 : Int32) v3 x32.2 (Rs_countPlaces_5 v1 v2 n) ih
      · refine s_iconst (pc := 38) (v := 1) dX5_countPlaces_38 rfl ?_
        refine s_goto (pc := 39) 43 dX5_countPlaces_39 rfl ?_
        refine s_sub [0, 1, 2, 4] rfl ?_
        exact Rs_countPlaces_43_sem hG v1 hv1 v2 v4 (1 : Int32) v3 x32.2 (Rs_countPlaces_5 v1 v2 n) ih
def Rs_countPlaces  (v1 : Nat) (v2 : Int32) (P : PH) : Option (Int32 × PH) :=
  Rs_countPlaces_5 v1 v2 bigN (0 : Int32) (0 : Int32) P
set_option maxRecDepth 100000 in
set_option maxHeartbeats 4000000 in
theorem Rs_countPlaces_ok {G : GT} {l : Launch} (hG : GOK G l)  (v1 : Nat) (hv1 : kd v1 = 2) (v2 : Int32) (P : PH) : OkN G l yX5_countPlaces miX5_countPlaces 0 0 tIH [.ref (gA G 75), .ref (gA G v1), .int v2] P (Rs_countPlaces v1 v2 P) := by
  refine okN_of hG _ [(0, .ref (gA G 75)), (1, .ref (gA G v1)), (2, .int v2)] rfl rfl rfl (Nat.le_of_ble_eq_true rfl) rfl ?_
  unfold Rs_countPlaces
  refine s_iconst (pc := 0) (v := 0) dX5_countPlaces_0 rfl ?_
  refine s_istore_n (pc := 1) [(3, .int ((0 : Int32))), (0, .ref (gA G 75)), (1, .ref (gA G v1)), (2, .int v2)] dX5_countPlaces_1 rfl (Nat.le_of_ble_eq_true rfl) rfl ?_
  refine s_iconst (pc := 2) (v := 0) dX5_countPlaces_2 rfl ?_
  refine s_istore (pc := 3) [(4, .int ((0 : Int32))), (3, .int ((0 : Int32))), (0, .ref (gA G 75)), (1, .ref (gA G v1)), (2, .int v2)] dX5_countPlaces_3 (Nat.le_of_ble_eq_true rfl) rfl ?_
  refine s_sub [2, 3, 4, 1, 0] rfl ?_
  exact Rs_countPlaces_5_sem hG v1 hv1 v2 bigN (0 : Int32) (0 : Int32) P
def Sh_endOf_34   (v1 : Int32) (P : PH) : Option (Int32 × PH) :=
  if (P.1 82 4) < 0 then
    some ((P.1 82 4) - (1 : Int32), P)
  else
    if (12 : Int32) ≤ (P.1 82 4) then
      some ((P.1 82 4) - (1 : Int32), P)
    else
      gdI (P.1 82 4) 12 <|
      (some (sI P 85 (P.1 82 4).toNatClampNeg v1)).bind fun (P59 : PH) =>
      (some (sI P59 82 4 ((P59.1 82 4) + (1 : Int32)))).bind fun (P67 : PH) =>
      some ((P67.1 82 4) - (1 : Int32), P67)
set_option maxRecDepth 100000 in
set_option maxHeartbeats 4000000 in
theorem Sh_endOf_34_sem {G : GT} {l : Launch} (hG : GOK G l)  (v1 : Int32) (P : PH)   : Sem G l miX7_endOf 0 0 (rn tIH) 34 [(0, .ref (gA G 82)), (1, .int v1)] [] P (Sh_endOf_34 v1 P) := by
  unfold Sh_endOf_34
  refine s_aload_n (pc := 34) 0 dX7_endOf_34 rfl rfl ?_
  refine s_getI (pc := 35) dX7_endOf_35 (fi_X7_63 hG) kd_82 ?_
  refine s_if_lt (pc := 38) 70 dX7_endOf_38 rfl ?_ ?_
  · refine s_aload_n (pc := 70) 0 dX7_endOf_70 rfl rfl ?_
    refine s_getI (pc := 71) dX7_endOf_71 (fi_X7_63 hG) kd_82 ?_
    refine s_iconst (pc := 74) (v := 1) dX7_endOf_74 rfl ?_
    refine s_isub (pc := 75) dX7_endOf_75 ?_
    exact s_iret (pc := 76) dX7_endOf_76 rfl rfl
  · refine s_aload_n (pc := 41) 0 dX7_endOf_41 rfl rfl ?_
    refine s_getI (pc := 42) dX7_endOf_42 (fi_X7_63 hG) kd_82 ?_
    refine s_bipush (pc := 45) (v := 12) dX7_endOf_45 rfl ?_
    refine s_icmp_ge (pc := 47) 70 dX7_endOf_47 rfl ?_ ?_
    · refine s_aload_n (pc := 70) 0 dX7_endOf_70 rfl rfl ?_
      refine s_getI (pc := 71) dX7_endOf_71 (fi_X7_63 hG) kd_82 ?_
      refine s_iconst (pc := 74) (v := 1) dX7_endOf_74 rfl ?_
      refine s_isub (pc := 75) dX7_endOf_75 ?_
      exact s_iret (pc := 76) dX7_endOf_76 rfl rfl
    · refine s_aload_n (pc := 50) 0 dX7_endOf_50 rfl rfl ?_
      refine s_getR (pc := 51) 85 dX7_endOf_51 (fi_X7_18 hG) kd_82 rfl ?_
      refine s_aload_n (pc := 54) 0 dX7_endOf_54 rfl rfl ?_
      refine s_getI (pc := 55) dX7_endOf_55 (fi_X7_63 hG) kd_82 ?_
      refine s_iload_n (pc := 58) 1 dX7_endOf_58 rfl rfl ?_
      refine s_iast (pc := 59) 12 dX7_endOf_59 kd_85 ln_85 ?_
      refine s_letP (fun P59 => ?_)
      refine s_aload_n (pc := 60) 0 dX7_endOf_60 rfl rfl ?_
      refine s_dup (pc := 61) dX7_endOf_61 rfl ?_
      refine s_getI (pc := 62) dX7_endOf_62 (fi_X7_63 hG) kd_82 ?_
      refine s_iconst (pc := 65) (v := 1) dX7_endOf_65 rfl ?_
      refine s_iadd (pc := 66) dX7_endOf_66 ?_
      refine s_putI (pc := 67) dX7_endOf_67 (fp_X7_63 hG) kd_82 ?_
      refine s_letP (fun P67 => ?_)
      refine s_aload_n (pc := 70) 0 dX7_endOf_70 rfl rfl ?_
      refine s_getI (pc := 71) dX7_endOf_71 (fi_X7_63 hG) kd_82 ?_
      refine s_iconst (pc := 74) (v := 1) dX7_endOf_74 rfl ?_
      refine s_isub (pc := 75) dX7_endOf_75 ?_
      exact s_iret (pc := 76) dX7_endOf_76 rfl rfl
def Sh_endOf_2   (v1 : Int32)  : Nat → Int32 → PH → Option (Int32 × PH)
  | 0 => fun _ _ => none
  | n + 1 => fun v2 P =>
    if (P.1 82 4) ≤ v2 then
      Sh_endOf_34 v1 P
    else
      if (12 : Int32) ≤ v2 then
        Sh_endOf_34 v1 P
      else
        gdI v2 12 <|
        if (P.1 85 v2.toNatClampNeg) = v1 then
          some (v2, P)
        else
          Sh_endOf_2 v1 n (v2 + 1) P
set_option maxRecDepth 100000 in
set_option maxHeartbeats 4000000 in
theorem Sh_endOf_2_sem {G : GT} {l : Launch} (hG : GOK G l)  (v1 : Int32)    : ∀ (n : Nat) (v2 : Int32) (P : PH), Sem G l miX7_endOf 0 0 (rn tIH) 2 [(0, .ref (gA G 82)), (1, .int v1), (2, .int v2)] [] P (Sh_endOf_2 v1 n v2 P) := by
  intro n
  induction n with
  | zero => intro v2 P; exact s_none rfl
  | succ n ih =>
    intro v2 P
    rw [Sh_endOf_2]
    refine s_iload_n (pc := 2) 2 dX7_endOf_2 rfl rfl ?_
    refine s_aload_n (pc := 3) 0 dX7_endOf_3 rfl rfl ?_
    refine s_getI (pc := 4) dX7_endOf_4 (fi_X7_63 hG) kd_82 ?_
    refine s_icmp_ge (pc := 7) 34 dX7_endOf_7 rfl ?_ ?_
    · refine s_sub [0, 1] rfl ?_
      exact Sh_endOf_34_sem hG v1 P
    · refine s_iload_n (pc := 10) 2 dX7_endOf_10 rfl rfl ?_
      refine s_bipush (pc := 11) (v := 12) dX7_endOf_11 rfl ?_
      refine s_icmp_ge (pc := 13) 34 dX7_endOf_13 rfl ?_ ?_
      · refine s_sub [0, 1] rfl ?_
        exact Sh_endOf_34_sem hG v1 P
      · refine s_aload_n (pc := 16) 0 dX7_endOf_16 rfl rfl ?_
        refine s_getR (pc := 17) 85 dX7_endOf_17 (fi_X7_18 hG) kd_82 rfl ?_
        refine s_iload_n (pc := 20) 2 dX7_endOf_20 rfl rfl ?_
        refine s_iald (pc := 21) 12 dX7_endOf_21 kd_85 ln_85 ?_
        refine s_iload_n (pc := 22) 1 dX7_endOf_22 rfl rfl ?_
        refine s_icmp_ne (pc := 23) 28 dX7_endOf_23 rfl ?_ ?_
        · refine s_iload_n (pc := 26) 2 dX7_endOf_26 rfl rfl ?_
          exact s_iret (pc := 27) dX7_endOf_27 rfl rfl
        · refine s_iinc (pc := 28) 2 1 [(2, .int (v2 + 1)), (0, .ref (gA G 82)), (1, .int v1)] dX7_endOf_28 rfl rfl (Nat.le_of_ble_eq_true rfl) rfl ?_
          refine s_goto (pc := 31) 2 dX7_endOf_31 rfl ?_
          refine s_sub [1, 2, 0] rfl ?_
          exact ih (v2 + 1) P
def Sh_endOf  (v1 : Int32) (P : PH) : Option (Int32 × PH) :=
  Sh_endOf_2 v1 bigN (0 : Int32) P
set_option maxRecDepth 100000 in
set_option maxHeartbeats 4000000 in
theorem Sh_endOf_ok {G : GT} {l : Launch} (hG : GOK G l)  (v1 : Int32) (P : PH) : OkN G l yX7_endOf miX7_endOf 0 0 tIH [.ref (gA G 82), .int v1] P (Sh_endOf v1 P) := by
  refine okN_of hG _ [(0, .ref (gA G 82)), (1, .int v1)] rfl rfl rfl (Nat.le_of_ble_eq_true rfl) rfl ?_
  unfold Sh_endOf
  refine s_iconst (pc := 0) (v := 0) dX7_endOf_0 rfl ?_
  refine s_istore_n (pc := 1) [(2, .int ((0 : Int32))), (0, .ref (gA G 82)), (1, .int v1)] dX7_endOf_1 rfl (Nat.le_of_ble_eq_true rfl) rfl ?_
  refine s_sub [1, 2, 0] rfl ?_
  exact Sh_endOf_2_sem hG v1 bigN (0 : Int32) P
def Sh_gather_15     : Nat → Int64 → Int32 → PH → Option (PH)
  | 0 => fun _ _ _ => none
  | n + 1 => fun v3 v5 P =>
    if (6 : Int32) ≤ v5 then
      some P
    else
      if (lg_cmp v3 (0 : Int64)) = 0 then
        some P
      else
        (Bs_lowest v3 P).bind fun (x29 : Int32) =>
        (Dr_fromOf 3 x29 P).bind fun (x47 : Int32) =>
        (Sh_endOf x47 P).bind fun (x50 : Int32 × PH) =>
        gdI v5 6 <|
        (some (sI x50.2 86 v5.toNatClampNeg (x50.1))).bind fun (P53 : PH) =>
        (Dr_toOf 3 x29 P53).bind fun (x67 : Int32) =>
        (Sh_endOf x67 P53).bind fun (x70 : Int32 × PH) =>
        gdI v5 6 <|
        (some (sI x70.2 87 v5.toNatClampNeg (x70.1))).bind fun (P73 : PH) =>
        (some (sI P73 82 7 ((P73.1 82 7) + (1 : Int32)))).bind fun (P81 : PH) =>
        (some (v3 &&& (v3 - (1 : Int64)))).bind fun (u3_89 : Int64) =>
        Sh_gather_15  n u3_89 (v5 + 1) P81
set_option maxRecDepth 100000 in
set_option maxHeartbeats 4000000 in
theorem Sh_gather_15_sem {G : GT} {l : Launch} (hG : GOK G l)      : ∀ (n : Nat) (v3 : Int64) (v5 : Int32) (P : PH), Sem G l miX7_gather 0 0 (rn tVH) 15 [(0, .ref (gA G 82)), (3, .long v3), (5, .int v5)] [] P (Sh_gather_15  n v3 v5 P) := by
  intro n
  induction n with
  | zero => intro v3 v5 P; exact s_none rfl
  | succ n ih =>
    intro v3 v5 P
    rw [Sh_gather_15]
    refine s_iload (pc := 15) 2 dX7_gather_15 rfl ?_
    refine s_bipush (pc := 17) (v := 6) dX7_gather_17 rfl ?_
    refine s_icmp_ge (pc := 19) 96 dX7_gather_19 rfl ?_ ?_
    · exact s_vret (pc := 96) dX7_gather_96 rfl rfl
    · refine s_lload_n (pc := 22) 1 dX7_gather_22 rfl rfl ?_
      refine s_lconst (pc := 23) (v := 0) dX7_gather_23 rfl ?_
      refine s_lcmp (pc := 24) dX7_gather_24 ?_
      refine s_if_eq (pc := 25) 96 dX7_gather_25 rfl ?_ ?_
      · exact s_vret (pc := 96) dX7_gather_96 rfl rfl
      · refine s_lload_n (pc := 28) 1 dX7_gather_28 rfl rfl ?_
        refine s_callSN (k := 0) (n := 0) (pc := 29) [.long v3] (fun x29 => .int x29 :: []) (fun _ => P) dX7_gather_29 (cSN_X7_66 hG) (Nat.le_of_ble_eq_true rfl) rfl (Bs_lowest_ok hG v3 P) rfl (fun _ => rfl) (fun _ => rfl) (Nat.le_of_ble_eq_true rfl) rfl rfl (fun x29 => ?_)
        refine s_istore (pc := 32) [(6, .int x29), (0, .ref (gA G 82)), (3, .long v3), (5, .int v5)] dX7_gather_32 (Nat.le_of_ble_eq_true rfl) rfl ?_
        refine s_aload_n (pc := 34) 1 dX7_gather_34 rfl rfl ?_
        refine s_getR (pc := 35) 86 dX7_gather_35 (fi_X7_21 hG) kd_82 rfl ?_
        refine s_iload (pc := 38) 3 dX7_gather_38 rfl ?_
        refine s_aload_n (pc := 40) 1 dX7_gather_40 rfl rfl ?_
        refine s_aload_n (pc := 41) 1 dX7_gather_41 rfl rfl ?_
        refine s_getR (pc := 42) 3 dX7_gather_42 (fi_X7_27 hG) kd_82 rfl ?_
        refine s_iload (pc := 45) 0 dX7_gather_45 rfl ?_
        refine s_callV (k := 0) (n := 0) (pc := 47) [.int x29] (fun x47 => .int x47 :: [.ref (gA G 82), .int v5, .ref (gA G 86)]) (fun _ => P) dX7_gather_47 (cV_X7_69 hG) (Nat.le_of_ble_eq_true rfl) rfl kd_3 (Dr_fromOf_ok hG 3 kd_3 x29 P) rfl (fun _ => rfl) (fun _ => rfl) (Nat.le_of_ble_eq_true rfl) rfl rfl (fun x47 => ?_)
        refine s_callV (k := 0) (n := 0) (pc := 50) [.int x47] (fun x50 => .int (x50.1) :: [.int v5, .ref (gA G 86)]) (fun x50 => x50.2) dX7_gather_50 (cV_X7_73 hG) (Nat.le_of_ble_eq_true rfl) rfl kd_82 (Sh_endOf_ok hG x47 P) rfl (fun _ => rfl) (fun _ => rfl) (Nat.le_of_ble_eq_true rfl) rfl rfl (fun x50 => ?_)
        refine s_iast (pc := 53) 6 dX7_gather_53 kd_86 ln_86 ?_
        refine s_letP (fun P53 => ?_)
        refine s_aload_n (pc := 54) 1 dX7_gather_54 rfl rfl ?_
        refine s_getR (pc := 55) 87 dX7_gather_55 (fi_X7_24 hG) kd_82 rfl ?_
        refine s_iload (pc := 58) 3 dX7_gather_58 rfl ?_
        refine s_aload_n (pc := 60) 1 dX7_gather_60 rfl rfl ?_
        refine s_aload_n (pc := 61) 1 dX7_gather_61 rfl rfl ?_
        refine s_getR (pc := 62) 3 dX7_gather_62 (fi_X7_27 hG) kd_82 rfl ?_
        refine s_iload (pc := 65) 0 dX7_gather_65 rfl ?_
        refine s_callV (k := 0) (n := 0) (pc := 67) [.int x29] (fun x67 => .int x67 :: [.ref (gA G 82), .int v5, .ref (gA G 87)]) (fun _ => P53) dX7_gather_67 (cV_X7_76 hG) (Nat.le_of_ble_eq_true rfl) rfl kd_3 (Dr_toOf_ok hG 3 kd_3 x29 P53) rfl (fun _ => rfl) (fun _ => rfl) (Nat.le_of_ble_eq_true rfl) rfl rfl (fun x67 => ?_)
        refine s_callV (k := 0) (n := 0) (pc := 70) [.int x67] (fun x70 => .int (x70.1) :: [.int v5, .ref (gA G 87)]) (fun x70 => x70.2) dX7_gather_70 (cV_X7_73 hG) (Nat.le_of_ble_eq_true rfl) rfl kd_82 (Sh_endOf_ok hG x67 P53) rfl (fun _ => rfl) (fun _ => rfl) (Nat.le_of_ble_eq_true rfl) rfl rfl (fun x70 => ?_)
        refine s_iast (pc := 73) 6 dX7_gather_73 kd_87 ln_87 ?_
        refine s_letP (fun P73 => ?_)
        refine s_aload_n (pc := 74) 1 dX7_gather_74 rfl rfl ?_
        refine s_dup (pc := 75) dX7_gather_75 rfl ?_
        refine s_getI (pc := 76) dX7_gather_76 (fi_X7_47 hG) kd_82 ?_
        refine s_iconst (pc := 79) (v := 1) dX7_gather_79 rfl ?_
        refine s_iadd (pc := 80) dX7_gather_80 ?_
        refine s_putI (pc := 81) dX7_gather_81 (fp_X7_47 hG) kd_82 ?_
        refine s_letP (fun P81 => ?_)
        refine s_lload_n (pc := 84) 2 dX7_gather_84 rfl rfl ?_
        refine s_lload_n (pc := 85) 2 dX7_gather_85 rfl rfl ?_
        refine s_lconst (pc := 86) (v := 1) dX7_gather_86 rfl ?_
        refine s_lsub (pc := 87) dX7_gather_87 ?_
        refine s_land (pc := 88) dX7_gather_88 ?_
        refine s_letL (fun u3_89 => ?_)
        refine s_lstore_n (pc := 89) [(3, .long u3_89), (6, .int x29), (0, .ref (gA G 82)), (5, .int v5)] dX7_gather_89 rfl (Nat.le_of_ble_eq_true rfl) rfl ?_
        refine s_iinc (pc := 90) 3 1 [(5, .int (v5 + 1)), (3, .long u3_89), (6, .int x29), (0, .ref (gA G 82))] dX7_gather_90 rfl rfl (Nat.le_of_ble_eq_true rfl) rfl ?_
        refine s_goto (pc := 93) 15 dX7_gather_93 rfl ?_
        refine s_sub [3, 1, 0] rfl ?_
        exact ih u3_89 (v5 + 1) P81
def Sh_gather  (v1 : Int64) (P : PH) : Option (PH) :=
  (some (sI P 82 7 (0 : Int32))).bind fun (P2 : PH) =>
  (some (sI P2 82 4 (0 : Int32))).bind fun (P7 : PH) =>
  Sh_gather_15  bigN v1 (0 : Int32) P7
set_option maxRecDepth 100000 in
set_option maxHeartbeats 4000000 in
theorem Sh_gather_ok {G : GT} {l : Launch} (hG : GOK G l)  (v1 : Int64) (P : PH) : OkN G l yX7_gather miX7_gather 0 0 tVH [.ref (gA G 82), .long v1] P (Sh_gather v1 P) := by
  refine okN_of hG _ [(0, .ref (gA G 82)), (1, .long v1)] rfl rfl rfl (Nat.le_of_ble_eq_true rfl) rfl ?_
  unfold Sh_gather
  refine s_aload_n (pc := 0) 0 dX7_gather_0 rfl rfl ?_
  refine s_iconst (pc := 1) (v := 0) dX7_gather_1 rfl ?_
  refine s_putI (pc := 2) dX7_gather_2 (fp_X7_47 hG) kd_82 ?_
  refine s_letP (fun P2 => ?_)
  refine s_aload_n (pc := 5) 0 dX7_gather_5 rfl rfl ?_
  refine s_iconst (pc := 6) (v := 0) dX7_gather_6 rfl ?_
  refine s_putI (pc := 7) dX7_gather_7 (fp_X7_63 hG) kd_82 ?_
  refine s_letP (fun P7 => ?_)
  refine s_lload_n (pc := 10) 1 dX7_gather_10 rfl rfl ?_
  refine s_lstore_n (pc := 11) [(3, .long v1), (0, .ref (gA G 82)), (1, .long v1)] dX7_gather_11 rfl (Nat.le_of_ble_eq_true rfl) rfl ?_
  refine s_iconst (pc := 12) (v := 0) dX7_gather_12 rfl ?_
  refine s_istore (pc := 13) [(5, .int ((0 : Int32))), (3, .long v1), (0, .ref (gA G 82)), (1, .long v1)] dX7_gather_13 (Nat.le_of_ble_eq_true rfl) rfl ?_
  refine s_sub [2, 1, 0] rfl ?_
  exact Sh_gather_15_sem hG  bigN v1 (0 : Int32) P7
def Sh_knottedEnds_44  (r4 : Int32 → Int32 → Option (Int32)) (v1 : Int32) (v2 : Int32) (P : PH) : Option (Int32) :=
  (some (v1 ||| ((3 : Int32) <<< (((2 : Int32) * v2) &&& 31)))).bind fun (u1_51 : Int32) =>
  r4 u1_51 (v2 + 1)
set_option maxRecDepth 100000 in
set_option maxHeartbeats 4000000 in
theorem Sh_knottedEnds_44_sem {G : GT} {l : Launch} (hG : GOK G l)  (v1 : Int32) (v2 : Int32) (P : PH)  (r4 : Int32 → Int32 → Option (Int32)) (hr4 : ∀ (v1 : Int32) (v2 : Int32), Sem G l miX7_knottedEnds 0 0 (rn (tI P)) 4 [(0, .ref (gA G 82)), (1, .int v1), (2, .int v2)] [] P (r4 v1 v2)) : Sem G l miX7_knottedEnds 0 0 (rn (tI P)) 44 [(0, .ref (gA G 82)), (1, .int v1), (2, .int v2)] [] P (Sh_knottedEnds_44 r4 v1 v2 P) := by
  unfold Sh_knottedEnds_44
  refine s_iload_n (pc := 44) 1 dX7_knottedEnds_44 rfl rfl ?_
  refine s_iconst (pc := 45) (v := 3) dX7_knottedEnds_45 rfl ?_
  refine s_iconst (pc := 46) (v := 2) dX7_knottedEnds_46 rfl ?_
  refine s_iload_n (pc := 47) 2 dX7_knottedEnds_47 rfl rfl ?_
  refine s_imul (pc := 48) dX7_knottedEnds_48 ?_
  refine s_ishl (pc := 49) dX7_knottedEnds_49 ?_
  refine s_ior (pc := 50) dX7_knottedEnds_50 ?_
  refine s_letI (fun u1_51 => ?_)
  refine s_istore_n (pc := 51) [(1, .int u1_51), (0, .ref (gA G 82)), (2, .int v2)] dX7_knottedEnds_51 rfl (Nat.le_of_ble_eq_true rfl) rfl ?_
  refine s_iinc (pc := 52) 2 1 [(2, .int (v2 + 1)), (1, .int u1_51), (0, .ref (gA G 82))] dX7_knottedEnds_52 rfl rfl (Nat.le_of_ble_eq_true rfl) rfl ?_
  refine s_goto (pc := 55) 4 dX7_knottedEnds_55 rfl ?_
  refine s_sub [2, 1, 0] rfl ?_
  exact hr4 u1_51 (v2 + 1)
def Sh_knottedEnds_4    (P : PH) : Nat → Int32 → Int32 → Option (Int32)
  | 0 => fun _ _ => none
  | n + 1 => fun v1 v2 =>
    if (P.1 82 4) ≤ v2 then
      some v1
    else
      if (12 : Int32) ≤ v2 then
        some v1
      else
        if (P.1 3 1) = 0 then
          Sh_knottedEnds_44 (Sh_knottedEnds_4 P n) v1 v2 P
        else
          gdI v2 12 <|
          (Dr_isKnot 3 (P.1 85 v2.toNatClampNeg) P).bind fun (x38 : Int32) =>
          if x38 = 0 then
            Sh_knottedEnds_4 P n v1 (v2 + 1)
          else
            Sh_knottedEnds_44 (Sh_knottedEnds_4 P n) v1 v2 P
set_option maxRecDepth 100000 in
set_option maxHeartbeats 4000000 in
theorem Sh_knottedEnds_4_sem {G : GT} {l : Launch} (hG : GOK G l)   (P : PH)   : ∀ (n : Nat) (v1 : Int32) (v2 : Int32), Sem G l miX7_knottedEnds 0 0 (rn (tI P)) 4 [(0, .ref (gA G 82)), (1, .int v1), (2, .int v2)] [] P (Sh_knottedEnds_4 P n v1 v2) := by
  intro n
  induction n with
  | zero => intro v1 v2; exact s_none rfl
  | succ n ih =>
    intro v1 v2
    rw [Sh_knottedEnds_4]
    refine s_iload_n (pc := 4) 2 dX7_knottedEnds_4 rfl rfl ?_
    refine s_aload_n (pc := 5) 0 dX7_knottedEnds_5 rfl rfl ?_
    refine s_getI (pc := 6) dX7_knottedEnds_6 (fi_X7_63 hG) kd_82 ?_
    refine s_icmp_ge (pc := 9) 58 dX7_knottedEnds_9 rfl ?_ ?_
    · refine s_iload_n (pc := 58) 1 dX7_knottedEnds_58 rfl rfl ?_
      exact s_iret (pc := 59) dX7_knottedEnds_59 rfl rfl
    · refine s_iload_n (pc := 12) 2 dX7_knottedEnds_12 rfl rfl ?_
      refine s_bipush (pc := 13) (v := 12) dX7_knottedEnds_13 rfl ?_
      refine s_icmp_ge (pc := 15) 58 dX7_knottedEnds_15 rfl ?_ ?_
      · refine s_iload_n (pc := 58) 1 dX7_knottedEnds_58 rfl rfl ?_
        exact s_iret (pc := 59) dX7_knottedEnds_59 rfl rfl
      · refine s_aload_n (pc := 18) 0 dX7_knottedEnds_18 rfl rfl ?_
        refine s_getR (pc := 19) 3 dX7_knottedEnds_19 (fi_X7_27 hG) kd_82 rfl ?_
        refine s_getI (pc := 22) dX7_knottedEnds_22 (fi_X7_79 hG) kd_3 ?_
        refine s_if_eq (pc := 25) 44 dX7_knottedEnds_25 rfl ?_ ?_
        · exact Sh_knottedEnds_44_sem hG v1 v2 P (Sh_knottedEnds_4 P n) ih
        · refine s_aload_n (pc := 28) 0 dX7_knottedEnds_28 rfl rfl ?_
          refine s_getR (pc := 29) 3 dX7_knottedEnds_29 (fi_X7_27 hG) kd_82 rfl ?_
          refine s_aload_n (pc := 32) 0 dX7_knottedEnds_32 rfl rfl ?_
          refine s_getR (pc := 33) 85 dX7_knottedEnds_33 (fi_X7_18 hG) kd_82 rfl ?_
          refine s_iload_n (pc := 36) 2 dX7_knottedEnds_36 rfl rfl ?_
          refine s_iald (pc := 37) 12 dX7_knottedEnds_37 kd_85 ln_85 ?_
          refine s_callV (k := 0) (n := 0) (pc := 38) [.int (P.1 85 v2.toNatClampNeg)] (fun x38 => .int x38 :: []) (fun _ => P) dX7_knottedEnds_38 (cV_X7_82 hG) (Nat.le_of_ble_eq_true rfl) rfl kd_3 (Dr_isKnot_ok hG 3 kd_3 (P.1 85 v2.toNatClampNeg) P) rfl (fun _ => rfl) (fun _ => rfl) (Nat.le_of_ble_eq_true rfl) rfl rfl (fun x38 => ?_)
          refine s_if_eq (pc := 41) 52 dX7_knottedEnds_41 rfl ?_ ?_
          · refine s_iinc (pc := 52) 2 1 [(2, .int (v2 + 1)), (0, .ref (gA G 82)), (1, .int v1)] dX7_knottedEnds_52 rfl rfl (Nat.le_of_ble_eq_true rfl) rfl ?_
            refine s_goto (pc := 55) 4 dX7_knottedEnds_55 rfl ?_
            refine s_sub [1, 2, 0] rfl ?_
            exact ih v1 (v2 + 1)
          · exact Sh_knottedEnds_44_sem hG v1 v2 P (Sh_knottedEnds_4 P n) ih
def Sh_knottedEnds   (P : PH) : Option (Int32) :=
  Sh_knottedEnds_4 P bigN (0 : Int32) (0 : Int32)
set_option maxRecDepth 100000 in
set_option maxHeartbeats 4000000 in
theorem Sh_knottedEnds_ok {G : GT} {l : Launch} (hG : GOK G l)   (P : PH) : OkN G l yX7_knottedEnds miX7_knottedEnds 0 0 (tI P) [.ref (gA G 82)] P (Sh_knottedEnds P) := by
  refine okN_of hG _ [(0, .ref (gA G 82))] rfl rfl rfl (Nat.le_of_ble_eq_true rfl) rfl ?_
  unfold Sh_knottedEnds
  refine s_iconst (pc := 0) (v := 0) dX7_knottedEnds_0 rfl ?_
  refine s_istore_n (pc := 1) [(1, .int ((0 : Int32))), (0, .ref (gA G 82))] dX7_knottedEnds_1 rfl (Nat.le_of_ble_eq_true rfl) rfl ?_
  refine s_iconst (pc := 2) (v := 0) dX7_knottedEnds_2 rfl ?_
  refine s_istore_n (pc := 3) [(2, .int ((0 : Int32))), (1, .int ((0 : Int32))), (0, .ref (gA G 82))] dX7_knottedEnds_3 rfl (Nat.le_of_ble_eq_true rfl) rfl ?_
  refine s_sub [2, 1, 0] rfl ?_
  exact Sh_knottedEnds_4_sem hG P bigN (0 : Int32) (0 : Int32)
def Sh_note  (v1 : Int32) (v2 : Int32) (P : PH) : Option (PH) :=
  if v2 < 0 then
    some P
  else
    if (4096 : Int32) ≤ v2 then
      some P
    else
      if v1 < 0 then
        some P
      else
        if v1 < (4096 : Int32) then
          gdI v2 4096 <|
          (some ((P.1 84 v2.toNatClampNeg) + (1 : Int32))).bind fun (u3_31 : Int32) =>
          gdI v1 4096 <|
          if (P.1 84 v1.toNatClampNeg) = 0 then
            gdI v1 4096 <|
            (some (sI P 84 v1.toNatClampNeg u3_31)).bind fun (P57 : PH) =>
            some P57
          else
            gdI v1 4096 <|
            if (P.1 84 v1.toNatClampNeg) ≤ u3_31 then
              some P
            else
              gdI v1 4096 <|
              (some (sI P 84 v1.toNatClampNeg u3_31)).bind fun (P57 : PH) =>
              some P57
        else
          some P
set_option maxRecDepth 100000 in
set_option maxHeartbeats 4000000 in
theorem Sh_note_ok {G : GT} {l : Launch} (hG : GOK G l)  (v1 : Int32) (v2 : Int32) (P : PH) : OkN G l yX7_note miX7_note 0 0 tVH [.ref (gA G 82), .int v1, .int v2] P (Sh_note v1 v2 P) := by
  refine okN_of hG _ [(0, .ref (gA G 82)), (1, .int v1), (2, .int v2)] rfl rfl rfl (Nat.le_of_ble_eq_true rfl) rfl ?_
  unfold Sh_note
  refine s_iload_n (pc := 0) 2 dX7_note_0 rfl rfl ?_
  refine s_if_lt (pc := 1) 22 dX7_note_1 rfl ?_ ?_
  · exact s_vret (pc := 22) dX7_note_22 rfl rfl
  · refine s_iload_n (pc := 4) 2 dX7_note_4 rfl rfl ?_
    refine s_sipush (pc := 5) (v := 4096) dX7_note_5 rfl ?_
    refine s_icmp_ge (pc := 8) 22 dX7_note_8 rfl ?_ ?_
    · exact s_vret (pc := 22) dX7_note_22 rfl rfl
    · refine s_iload_n (pc := 11) 1 dX7_note_11 rfl rfl ?_
      refine s_if_lt (pc := 12) 22 dX7_note_12 rfl ?_ ?_
      · exact s_vret (pc := 22) dX7_note_22 rfl rfl
      · refine s_iload_n (pc := 15) 1 dX7_note_15 rfl rfl ?_
        refine s_sipush (pc := 16) (v := 4096) dX7_note_16 rfl ?_
        refine s_icmp_lt (pc := 19) 23 dX7_note_19 rfl ?_ ?_
        · refine s_aload_n (pc := 23) 0 dX7_note_23 rfl rfl ?_
          refine s_getR (pc := 24) 84 dX7_note_24 (fi_X7_15 hG) kd_82 rfl ?_
          refine s_iload_n (pc := 27) 2 dX7_note_27 rfl rfl ?_
          refine s_iald (pc := 28) 4096 dX7_note_28 kd_84 ln_84 ?_
          refine s_iconst (pc := 29) (v := 1) dX7_note_29 rfl ?_
          refine s_iadd (pc := 30) dX7_note_30 ?_
          refine s_letI (fun u3_31 => ?_)
          refine s_istore_n (pc := 31) [(3, .int u3_31), (0, .ref (gA G 82)), (1, .int v1), (2, .int v2)] dX7_note_31 rfl (Nat.le_of_ble_eq_true rfl) rfl ?_
          refine s_aload_n (pc := 32) 1 dX7_note_32 rfl rfl ?_
          refine s_getR (pc := 33) 84 dX7_note_33 (fi_X7_15 hG) kd_82 rfl ?_
          refine s_iload_n (pc := 36) 2 dX7_note_36 rfl rfl ?_
          refine s_iald (pc := 37) 4096 dX7_note_37 kd_84 ln_84 ?_
          refine s_if_eq (pc := 38) 51 dX7_note_38 rfl ?_ ?_
          · refine s_aload_n (pc := 51) 1 dX7_note_51 rfl rfl ?_
            refine s_getR (pc := 52) 84 dX7_note_52 (fi_X7_15 hG) kd_82 rfl ?_
            refine s_iload_n (pc := 55) 2 dX7_note_55 rfl rfl ?_
            refine s_iload_n (pc := 56) 0 dX7_note_56 rfl rfl ?_
            refine s_iast (pc := 57) 4096 dX7_note_57 kd_84 ln_84 ?_
            refine s_letP (fun P57 => ?_)
            exact s_vret (pc := 58) dX7_note_58 rfl rfl
          · refine s_iload_n (pc := 41) 0 dX7_note_41 rfl rfl ?_
            refine s_aload_n (pc := 42) 1 dX7_note_42 rfl rfl ?_
            refine s_getR (pc := 43) 84 dX7_note_43 (fi_X7_15 hG) kd_82 rfl ?_
            refine s_iload_n (pc := 46) 2 dX7_note_46 rfl rfl ?_
            refine s_iald (pc := 47) 4096 dX7_note_47 kd_84 ln_84 ?_
            refine s_icmp_ge (pc := 48) 58 dX7_note_48 rfl ?_ ?_
            · exact s_vret (pc := 58) dX7_note_58 rfl rfl
            · refine s_aload_n (pc := 51) 1 dX7_note_51 rfl rfl ?_
              refine s_getR (pc := 52) 84 dX7_note_52 (fi_X7_15 hG) kd_82 rfl ?_
              refine s_iload_n (pc := 55) 2 dX7_note_55 rfl rfl ?_
              refine s_iload_n (pc := 56) 0 dX7_note_56 rfl rfl ?_
              refine s_iast (pc := 57) 4096 dX7_note_57 kd_84 ln_84 ?_
              refine s_letP (fun P57 => ?_)
              exact s_vret (pc := 58) dX7_note_58 rfl rfl
        · exact s_vret (pc := 22) dX7_note_22 rfl rfl
def Sh_reachedBy  (v1 : Int32) (P : PH) : Option (Int32) :=
  if v1 < 0 then
    some (0 : Int32)
  else
    if (4096 : Int32) ≤ v1 then
      some (0 : Int32)
    else
      gdI v1 4096 <|
      some (P.1 83 v1.toNatClampNeg)
set_option maxRecDepth 100000 in
set_option maxHeartbeats 4000000 in
theorem Sh_reachedBy_ok {G : GT} {l : Launch} (hG : GOK G l)  (v1 : Int32) (P : PH) : OkN G l yX7_reachedBy miX7_reachedBy 0 0 (tI P) [.ref (gA G 82), .int v1] P (Sh_reachedBy v1 P) := by
  refine okN_of hG _ [(0, .ref (gA G 82)), (1, .int v1)] rfl rfl rfl (Nat.le_of_ble_eq_true rfl) rfl ?_
  unfold Sh_reachedBy
  refine s_iload_n (pc := 0) 1 dX7_reachedBy_0 rfl rfl ?_
  refine s_if_lt (pc := 1) 20 dX7_reachedBy_1 rfl ?_ ?_
  · refine s_iconst (pc := 20) (v := 0) dX7_reachedBy_20 rfl ?_
    exact s_iret (pc := 21) dX7_reachedBy_21 rfl rfl
  · refine s_iload_n (pc := 4) 1 dX7_reachedBy_4 rfl rfl ?_
    refine s_sipush (pc := 5) (v := 4096) dX7_reachedBy_5 rfl ?_
    refine s_icmp_ge (pc := 8) 20 dX7_reachedBy_8 rfl ?_ ?_
    · refine s_iconst (pc := 20) (v := 0) dX7_reachedBy_20 rfl ?_
      exact s_iret (pc := 21) dX7_reachedBy_21 rfl rfl
    · refine s_aload_n (pc := 11) 0 dX7_reachedBy_11 rfl rfl ?_
      refine s_getR (pc := 12) 83 dX7_reachedBy_12 (fi_X7_11 hG) kd_82 rfl ?_
      refine s_iload_n (pc := 15) 1 dX7_reachedBy_15 rfl rfl ?_
      refine s_iald (pc := 16) 4096 dX7_reachedBy_16 kd_83 ln_83 ?_
      refine s_goto (pc := 17) 21 dX7_reachedBy_17 rfl ?_
      exact s_iret (pc := 21) dX7_reachedBy_21 rfl rfl
def Sh_shareBehind_69  (r31 : Int32 → Int32 → PH → Option (PH)) (v1 : Int32) (v3 : Int32) (v5 : Int32) (v6 : Int32) (v7 : Int32) (v8 : Int32) (P : PH) : Option (PH) :=
  if v7 = 0 then
    some P
  else
    (some ((v7 - (1 : Int32)) &&& v6)).bind fun (u7_82 : Int32) =>
    r31 u7_82 (v8 + 1) P
set_option maxRecDepth 100000 in
set_option maxHeartbeats 4000000 in
theorem Sh_shareBehind_69_sem {G : GT} {l : Launch} (hG : GOK G l)  (v1 : Int32) (v3 : Int32) (v5 : Int32) (v6 : Int32) (v7 : Int32) (v8 : Int32) (P : PH)  (r31 : Int32 → Int32 → PH → Option (PH)) (hr31 : ∀ (v7 : Int32) (v8 : Int32) (P : PH), Sem G l miX7_shareBehind 0 0 (rn tVH) 31 [(0, .ref (gA G 82)), (1, .int v1), (3, .int v3), (5, .int v5), (6, .int v6), (7, .int v7), (8, .int v8)] [] P (r31 v7 v8 P)) : Sem G l miX7_shareBehind 0 0 (rn tVH) 69 [(0, .ref (gA G 82)), (1, .int v1), (3, .int v3), (5, .int v5), (6, .int v6), (7, .int v7), (8, .int v8)] [] P (Sh_shareBehind_69 r31 v1 v3 v5 v6 v7 v8 P) := by
  unfold Sh_shareBehind_69
  refine s_iload (pc := 69) 5 dX7_shareBehind_69 rfl ?_
  refine s_if_ne (pc := 71) 75 dX7_shareBehind_71 rfl ?_ ?_
  · exact s_vret (pc := 74) dX7_shareBehind_74 rfl rfl
  · refine s_iload (pc := 75) 5 dX7_shareBehind_75 rfl ?_
    refine s_iconst (pc := 77) (v := 1) dX7_shareBehind_77 rfl ?_
    refine s_isub (pc := 78) dX7_shareBehind_78 ?_
    refine s_iload (pc := 79) 4 dX7_shareBehind_79 rfl ?_
    refine s_iand (pc := 81) dX7_shareBehind_81 ?_
    refine s_letI (fun u7_82 => ?_)
    refine s_istore (pc := 82) [(7, .int u7_82), (0, .ref (gA G 82)), (1, .int v1), (3, .int v3), (5, .int v5), (6, .int v6), (8, .int v8)] dX7_shareBehind_82 (Nat.le_of_ble_eq_true rfl) rfl ?_
    refine s_iinc (pc := 84) 6 1 [(8, .int (v8 + 1)), (7, .int u7_82), (0, .ref (gA G 82)), (1, .int v1), (3, .int v3), (5, .int v5), (6, .int v6)] dX7_shareBehind_84 rfl rfl (Nat.le_of_ble_eq_true rfl) rfl ?_
    refine s_goto (pc := 87) 31 dX7_shareBehind_87 rfl ?_
    refine s_sub [2, 3, 4, 5, 6, 1, 0] rfl ?_
    exact hr31 u7_82 (v8 + 1) P
def Sh_shareBehind_31   (v1 : Int32) (v3 : Int32) (v5 : Int32) (v6 : Int32)  : Nat → Int32 → Int32 → PH → Option (PH)
  | 0 => fun _ _ _ => none
  | n + 1 => fun v7 v8 P =>
    if (4096 : Int32) ≤ v8 then
      some P
    else
      (some ((v1 ||| v5) ||| v7)).bind fun (u9_46 : Int32) =>
      (Sh_reachedBy (v5 ||| v7) P).bind fun (x54 : Int32) =>
      if (x54 &&& v3) = 0 then
        Sh_shareBehind_69 (Sh_shareBehind_31 v1 v3 v5 v6 n) v1 v3 v5 v6 v7 v8 P
      else
        (Sh_note u9_46 v1 P).bind fun (x66 : PH) =>
        Sh_shareBehind_69 (Sh_shareBehind_31 v1 v3 v5 v6 n) v1 v3 v5 v6 v7 v8 x66
set_option maxRecDepth 100000 in
set_option maxHeartbeats 4000000 in
theorem Sh_shareBehind_31_sem {G : GT} {l : Launch} (hG : GOK G l)  (v1 : Int32) (v3 : Int32) (v5 : Int32) (v6 : Int32)    : ∀ (n : Nat) (v7 : Int32) (v8 : Int32) (P : PH), Sem G l miX7_shareBehind 0 0 (rn tVH) 31 [(0, .ref (gA G 82)), (1, .int v1), (3, .int v3), (5, .int v5), (6, .int v6), (7, .int v7), (8, .int v8)] [] P (Sh_shareBehind_31 v1 v3 v5 v6 n v7 v8 P) := by
  intro n
  induction n with
  | zero => intro v7 v8 P; exact s_none rfl
  | succ n ih =>
    intro v7 v8 P
    rw [Sh_shareBehind_31]
    refine s_iload (pc := 31) 6 dX7_shareBehind_31 rfl ?_
    refine s_sipush (pc := 33) (v := 4096) dX7_shareBehind_33 rfl ?_
    refine s_icmp_ge (pc := 36) 90 dX7_shareBehind_36 rfl ?_ ?_
    · exact s_vret (pc := 90) dX7_shareBehind_90 rfl rfl
    · refine s_iload_n (pc := 39) 1 dX7_shareBehind_39 rfl rfl ?_
      refine s_iload (pc := 40) 3 dX7_shareBehind_40 rfl ?_
      refine s_ior (pc := 42) dX7_shareBehind_42 ?_
      refine s_iload (pc := 43) 5 dX7_shareBehind_43 rfl ?_
      refine s_ior (pc := 45) dX7_shareBehind_45 ?_
      refine s_letI (fun u9_46 => ?_)
      refine s_istore (pc := 46) [(9, .int u9_46), (0, .ref (gA G 82)), (1, .int v1), (3, .int v3), (5, .int v5), (6, .int v6), (7, .int v7), (8, .int v8)] dX7_shareBehind_46 (Nat.le_of_ble_eq_true rfl) rfl ?_
      refine s_aload_n (pc := 48) 1 dX7_shareBehind_48 rfl rfl ?_
      refine s_iload (pc := 49) 4 dX7_shareBehind_49 rfl ?_
      refine s_iload (pc := 51) 6 dX7_shareBehind_51 rfl ?_
      refine s_ior (pc := 53) dX7_shareBehind_53 ?_
      refine s_callV (k := 0) (n := 0) (pc := 54) [.int (v5 ||| v7)] (fun x54 => .int x54 :: []) (fun _ => P) dX7_shareBehind_54 (cV_X7_100 hG) (Nat.le_of_ble_eq_true rfl) rfl kd_82 (Sh_reachedBy_ok hG (v5 ||| v7) P) rfl (fun _ => rfl) (fun _ => rfl) (Nat.le_of_ble_eq_true rfl) rfl rfl (fun x54 => ?_)
      refine s_iload_n (pc := 57) 3 dX7_shareBehind_57 rfl rfl ?_
      refine s_iand (pc := 58) dX7_shareBehind_58 ?_
      refine s_if_eq (pc := 59) 69 dX7_shareBehind_59 rfl ?_ ?_
      · refine s_sub [1, 2, 3, 4, 5, 6, 7] rfl ?_
        exact Sh_shareBehind_69_sem hG v1 v3 v5 v6 v7 v8 P (Sh_shareBehind_31 v1 v3 v5 v6 n) ih
      · refine s_aload_n (pc := 62) 1 dX7_shareBehind_62 rfl rfl ?_
        refine s_iload (pc := 63) 0 dX7_shareBehind_63 rfl ?_
        refine s_iload_n (pc := 65) 2 dX7_shareBehind_65 rfl rfl ?_
        refine s_callV (k := 0) (n := 0) (pc := 66) [.int u9_46, .int v1] (fun _ => []) (fun x66 => x66) dX7_shareBehind_66 (cV_X7_106 hG) (Nat.le_of_ble_eq_true rfl) rfl kd_82 (Sh_note_ok hG u9_46 v1 P) rfl (fun _ => rfl) (fun _ => rfl) (Nat.le_of_ble_eq_true rfl) rfl rfl (fun x66 => ?_)
        refine s_sub [1, 2, 3, 4, 5, 6, 7] rfl ?_
        exact Sh_shareBehind_69_sem hG v1 v3 v5 v6 v7 v8 x66 (Sh_shareBehind_31 v1 v3 v5 v6 n) ih
def Sh_shareBehind  (v1 : Int32) (v2 : Int32) (v3 : Int32) (P : PH) : Option (PH) :=
  (some (v2 &&& (v1 ^^^ (-1 : Int32)))).bind fun (u4_5 : Int32) =>
  (some (u4_5 &&& (-u4_5))).bind fun (u5_13 : Int32) =>
  (some (u4_5 &&& (u5_13 ^^^ (-1 : Int32)))).bind fun (u6_22 : Int32) =>
  Sh_shareBehind_31 v1 v3 u5_13 u6_22 bigN u6_22 (0 : Int32) P
set_option maxRecDepth 100000 in
set_option maxHeartbeats 4000000 in
theorem Sh_shareBehind_ok {G : GT} {l : Launch} (hG : GOK G l)  (v1 : Int32) (v2 : Int32) (v3 : Int32) (P : PH) : OkN G l yX7_shareBehind miX7_shareBehind 0 0 tVH [.ref (gA G 82), .int v1, .int v2, .int v3] P (Sh_shareBehind v1 v2 v3 P) := by
  refine okN_of hG _ [(0, .ref (gA G 82)), (1, .int v1), (2, .int v2), (3, .int v3)] rfl rfl rfl (Nat.le_of_ble_eq_true rfl) rfl ?_
  unfold Sh_shareBehind
  refine s_iload_n (pc := 0) 2 dX7_shareBehind_0 rfl rfl ?_
  refine s_iload_n (pc := 1) 1 dX7_shareBehind_1 rfl rfl ?_
  refine s_iconst (pc := 2) (v := -1) dX7_shareBehind_2 rfl ?_
  refine s_ixor (pc := 3) dX7_shareBehind_3 ?_
  refine s_iand (pc := 4) dX7_shareBehind_4 ?_
  refine s_letI (fun u4_5 => ?_)
  refine s_istore (pc := 5) [(4, .int u4_5), (0, .ref (gA G 82)), (1, .int v1), (2, .int v2), (3, .int v3)] dX7_shareBehind_5 (Nat.le_of_ble_eq_true rfl) rfl ?_
  refine s_iload (pc := 7) 0 dX7_shareBehind_7 rfl ?_
  refine s_iload (pc := 9) 0 dX7_shareBehind_9 rfl ?_
  refine s_ineg (pc := 11) dX7_shareBehind_11 ?_
  refine s_iand (pc := 12) dX7_shareBehind_12 ?_
  refine s_letI (fun u5_13 => ?_)
  refine s_istore (pc := 13) [(5, .int u5_13), (4, .int u4_5), (0, .ref (gA G 82)), (1, .int v1), (2, .int v2), (3, .int v3)] dX7_shareBehind_13 (Nat.le_of_ble_eq_true rfl) rfl ?_
  refine s_iload (pc := 15) 1 dX7_shareBehind_15 rfl ?_
  refine s_iload (pc := 17) 0 dX7_shareBehind_17 rfl ?_
  refine s_iconst (pc := 19) (v := -1) dX7_shareBehind_19 rfl ?_
  refine s_ixor (pc := 20) dX7_shareBehind_20 ?_
  refine s_iand (pc := 21) dX7_shareBehind_21 ?_
  refine s_letI (fun u6_22 => ?_)
  refine s_istore (pc := 22) [(6, .int u6_22), (5, .int u5_13), (4, .int u4_5), (0, .ref (gA G 82)), (1, .int v1), (2, .int v2), (3, .int v3)] dX7_shareBehind_22 (Nat.le_of_ble_eq_true rfl) rfl ?_
  refine s_iload (pc := 24) 0 dX7_shareBehind_24 rfl ?_
  refine s_istore (pc := 26) [(7, .int u6_22), (6, .int u6_22), (5, .int u5_13), (4, .int u4_5), (0, .ref (gA G 82)), (1, .int v1), (2, .int v2), (3, .int v3)] dX7_shareBehind_26 (Nat.le_of_ble_eq_true rfl) rfl ?_
  refine s_iconst (pc := 28) (v := 0) dX7_shareBehind_28 rfl ?_
  refine s_istore (pc := 29) [(8, .int ((0 : Int32))), (7, .int u6_22), (6, .int u6_22), (5, .int u5_13), (4, .int u4_5), (0, .ref (gA G 82)), (1, .int v1), (2, .int v2), (3, .int v3)] dX7_shareBehind_29 (Nat.le_of_ble_eq_true rfl) rfl ?_
  refine s_sub [5, 6, 8, 3, 2, 1, 0] rfl ?_
  exact Sh_shareBehind_31_sem hG v1 v3 u5_13 u6_22 bigN u6_22 (0 : Int32) P
