def Sh_share_69   (v1 : Int32) (s0 : Int32) (P : PH) : Option (Int32 × PH) :=
  if s0 = 0 then
    if v1 = 0 then
      some (s0, P)
    else
      some ((-1 : Int32), P)
  else
    some (s0, P)
set_option maxRecDepth 100000 in
set_option maxHeartbeats 4000000 in
theorem Sh_share_69_sem {G : GT} {l : Launch} (hG : GOK G l)  (v1 : Int32) (s0 : Int32) (P : PH)   : Sem G l miX7_share 0 0 (rn tIH) 69 [(1, .int v1)] [.int s0] P (Sh_share_69 v1 s0 P) := by
  unfold Sh_share_69
  refine s_istore_n (pc := 69) [(3, .int s0), (1, .int v1)] dX7_share_69 rfl (Nat.le_of_ble_eq_true rfl) rfl ?_
  refine s_iload_n (pc := 70) 0 dX7_share_70 rfl rfl ?_
  refine s_if_ne (pc := 71) 82 dX7_share_71 rfl ?_ ?_
  · refine s_iload_n (pc := 74) 1 dX7_share_74 rfl rfl ?_
    refine s_if_eq (pc := 75) 82 dX7_share_75 rfl ?_ ?_
    · refine s_iload_n (pc := 82) 0 dX7_share_82 rfl rfl ?_
      exact s_iret (pc := 83) dX7_share_83 rfl rfl
    · refine s_iconst (pc := 78) (v := -1) dX7_share_78 rfl ?_
      refine s_goto (pc := 79) 83 dX7_share_79 rfl ?_
      exact s_iret (pc := 83) dX7_share_83 rfl rfl
  · refine s_iload_n (pc := 82) 0 dX7_share_82 rfl rfl ?_
    exact s_iret (pc := 83) dX7_share_83 rfl rfl
def Sh_share_48   (v1 : Int32) (P : PH) : Option (Int32 × PH) :=
  if v1 < 0 then
    Sh_share_69 v1 (0 : Int32) P
  else
    if (4096 : Int32) ≤ v1 then
      Sh_share_69 v1 (0 : Int32) P
    else
      gdI v1 4096 <|
      Sh_share_69 v1 (P.1 84 v1.toNatClampNeg) P
set_option maxRecDepth 100000 in
set_option maxHeartbeats 4000000 in
theorem Sh_share_48_sem {G : GT} {l : Launch} (hG : GOK G l)  (v1 : Int32) (P : PH)   : Sem G l miX7_share 0 0 (rn tIH) 48 [(0, .ref (gA G 82)), (1, .int v1)] [] P (Sh_share_48 v1 P) := by
  unfold Sh_share_48
  refine s_iload_n (pc := 48) 1 dX7_share_48 rfl rfl ?_
  refine s_if_lt (pc := 49) 68 dX7_share_49 rfl ?_ ?_
  · refine s_iconst (pc := 68) (v := 0) dX7_share_68 rfl ?_
    refine s_sub [1] rfl ?_
    exact Sh_share_69_sem hG v1 (0 : Int32) P
  · refine s_iload_n (pc := 52) 1 dX7_share_52 rfl rfl ?_
    refine s_sipush (pc := 53) (v := 4096) dX7_share_53 rfl ?_
    refine s_icmp_ge (pc := 56) 68 dX7_share_56 rfl ?_ ?_
    · refine s_iconst (pc := 68) (v := 0) dX7_share_68 rfl ?_
      refine s_sub [1] rfl ?_
      exact Sh_share_69_sem hG v1 (0 : Int32) P
    · refine s_aload_n (pc := 59) 0 dX7_share_59 rfl rfl ?_
      refine s_getR (pc := 60) 84 dX7_share_60 (fi_X7_15 hG) kd_82 rfl ?_
      refine s_iload_n (pc := 63) 1 dX7_share_63 rfl rfl ?_
      refine s_iald (pc := 64) 4096 dX7_share_64 kd_84 ln_84 ?_
      refine s_goto (pc := 65) 69 dX7_share_65 rfl ?_
      refine s_sub [1] rfl ?_
      exact Sh_share_69_sem hG v1 (P.1 84 v1.toNatClampNeg) P
def Sh_share_35  (r10 : Int32 → PH → Option (Int32 × PH)) (v1 : Int32) (v2 : Int32) (v3 : Int32) (P : PH) : Option (Int32 × PH) :=
  (Sh_shareBehind v3 v1 v2 P).bind fun (x39 : PH) =>
  r10 (v3 + 1) x39
set_option maxRecDepth 100000 in
set_option maxHeartbeats 4000000 in
theorem Sh_share_35_sem {G : GT} {l : Launch} (hG : GOK G l)  (v1 : Int32) (v2 : Int32) (v3 : Int32) (P : PH)  (r10 : Int32 → PH → Option (Int32 × PH)) (hr10 : ∀ (v3 : Int32) (P : PH), Sem G l miX7_share 0 0 (rn tIH) 10 [(0, .ref (gA G 82)), (1, .int v1), (2, .int v2), (3, .int v3)] [] P (r10 v3 P)) : Sem G l miX7_share 0 0 (rn tIH) 35 [(0, .ref (gA G 82)), (1, .int v1), (2, .int v2), (3, .int v3)] [] P (Sh_share_35 r10 v1 v2 v3 P) := by
  unfold Sh_share_35
  refine s_aload_n (pc := 35) 0 dX7_share_35 rfl rfl ?_
  refine s_iload_n (pc := 36) 3 dX7_share_36 rfl rfl ?_
  refine s_iload_n (pc := 37) 1 dX7_share_37 rfl rfl ?_
  refine s_iload_n (pc := 38) 2 dX7_share_38 rfl rfl ?_
  refine s_callV (k := 0) (n := 0) (pc := 39) [.int v3, .int v1, .int v2] (fun _ => []) (fun x39 => x39) dX7_share_39 (cV_X7_103 hG) (Nat.le_of_ble_eq_true rfl) rfl kd_82 (Sh_shareBehind_ok hG v3 v1 v2 P) rfl (fun _ => rfl) (fun _ => rfl) (Nat.le_of_ble_eq_true rfl) rfl rfl (fun x39 => ?_)
  refine s_iinc (pc := 42) 3 1 [(3, .int (v3 + 1)), (0, .ref (gA G 82)), (1, .int v1), (2, .int v2)] dX7_share_42 rfl rfl (Nat.le_of_ble_eq_true rfl) rfl ?_
  refine s_goto (pc := 45) 10 dX7_share_45 rfl ?_
  refine s_sub [1, 2, 3, 0] rfl ?_
  exact hr10 (v3 + 1) x39
def Sh_share_10   (v1 : Int32) (v2 : Int32)  : Nat → Int32 → PH → Option (Int32 × PH)
  | 0 => fun _ _ => none
  | n + 1 => fun v3 P =>
    if v1 ≤ v3 then
      Sh_share_48 v1 P
    else
      if (4096 : Int32) ≤ v3 then
        Sh_share_48 v1 P
      else
        if v3 = 0 then
          Sh_share_35 (Sh_share_10 v1 v2 n) v1 v2 v3 P
        else
          gdI v3 4096 <|
          if (P.1 84 v3.toNatClampNeg) = 0 then
            Sh_share_10 v1 v2 n (v3 + 1) P
          else
            Sh_share_35 (Sh_share_10 v1 v2 n) v1 v2 v3 P
set_option maxRecDepth 100000 in
set_option maxHeartbeats 4000000 in
theorem Sh_share_10_sem {G : GT} {l : Launch} (hG : GOK G l)  (v1 : Int32) (v2 : Int32)    : ∀ (n : Nat) (v3 : Int32) (P : PH), Sem G l miX7_share 0 0 (rn tIH) 10 [(0, .ref (gA G 82)), (1, .int v1), (2, .int v2), (3, .int v3)] [] P (Sh_share_10 v1 v2 n v3 P) := by
  intro n
  induction n with
  | zero => intro v3 P; exact s_none rfl
  | succ n ih =>
    intro v3 P
    rw [Sh_share_10]
    refine s_iload_n (pc := 10) 3 dX7_share_10 rfl rfl ?_
    refine s_iload_n (pc := 11) 1 dX7_share_11 rfl rfl ?_
    refine s_icmp_ge (pc := 12) 48 dX7_share_12 rfl ?_ ?_
    · refine s_sub [0, 1] rfl ?_
      exact Sh_share_48_sem hG v1 P
    · refine s_iload_n (pc := 15) 3 dX7_share_15 rfl rfl ?_
      refine s_sipush (pc := 16) (v := 4096) dX7_share_16 rfl ?_
      refine s_icmp_ge (pc := 19) 48 dX7_share_19 rfl ?_ ?_
      · refine s_sub [0, 1] rfl ?_
        exact Sh_share_48_sem hG v1 P
      · refine s_iload_n (pc := 22) 3 dX7_share_22 rfl rfl ?_
        refine s_if_eq (pc := 23) 35 dX7_share_23 rfl ?_ ?_
        · exact Sh_share_35_sem hG v1 v2 v3 P (Sh_share_10 v1 v2 n) ih
        · refine s_aload_n (pc := 26) 0 dX7_share_26 rfl rfl ?_
          refine s_getR (pc := 27) 84 dX7_share_27 (fi_X7_15 hG) kd_82 rfl ?_
          refine s_iload_n (pc := 30) 3 dX7_share_30 rfl rfl ?_
          refine s_iald (pc := 31) 4096 dX7_share_31 kd_84 ln_84 ?_
          refine s_if_eq (pc := 32) 42 dX7_share_32 rfl ?_ ?_
          · refine s_iinc (pc := 42) 3 1 [(3, .int (v3 + 1)), (0, .ref (gA G 82)), (1, .int v1), (2, .int v2)] dX7_share_42 rfl rfl (Nat.le_of_ble_eq_true rfl) rfl ?_
            refine s_goto (pc := 45) 10 dX7_share_45 rfl ?_
            refine s_sub [1, 2, 3, 0] rfl ?_
            exact ih (v3 + 1) P
          · exact Sh_share_35_sem hG v1 v2 v3 P (Sh_share_10 v1 v2 n) ih
def Sh_share  (v1 : Int32) (v2 : Int32) (P : PH) : Option (Int32 × PH) :=
  (some (rI P 84 (fun _ => (0 : Int32)))).bind fun (P5 : PH) =>
  Sh_share_10 v1 v2 bigN (0 : Int32) P5
set_option maxRecDepth 100000 in
set_option maxHeartbeats 4000000 in
theorem Sh_share_ok {G : GT} {l : Launch} (hG : GOK G l)  (v1 : Int32) (v2 : Int32) (P : PH) : OkN G l yX7_share miX7_share 0 0 tIH [.ref (gA G 82), .int v1, .int v2] P (Sh_share v1 v2 P) := by
  refine okN_of hG _ [(0, .ref (gA G 82)), (1, .int v1), (2, .int v2)] rfl rfl rfl (Nat.le_of_ble_eq_true rfl) rfl ?_
  unfold Sh_share
  refine s_aload_n (pc := 0) 0 dX7_share_0 rfl rfl ?_
  refine s_getR (pc := 1) 84 dX7_share_1 (fi_X7_15 hG) kd_82 rfl ?_
  refine s_iconst (pc := 4) (v := 0) dX7_share_4 rfl ?_
  refine s_fillI (pc := 5) dX7_share_5 (fl_X7_86 hG) hG kd_84 (Nat.le_of_ble_eq_true rfl) ?_
  refine s_letP (fun P5 => ?_)
  refine s_iconst (pc := 8) (v := 0) dX7_share_8 rfl ?_
  refine s_istore_n (pc := 9) [(3, .int ((0 : Int32))), (0, .ref (gA G 82)), (1, .int v1), (2, .int v2)] dX7_share_9 rfl (Nat.le_of_ble_eq_true rfl) rfl ?_
  refine s_sub [1, 2, 3, 0] rfl ?_
  exact Sh_share_10_sem hG v1 v2 bigN (0 : Int32) P5
def Ji_bitCount  (v0 : Int32) (P : PH) : Option (Int32) :=
  (some (v0 - (((v0.toUInt32 >>> ((1 : Int32).toUInt32 &&& Int32.toUInt32 31)).toInt32) &&& (1431655765 : Int32)))).bind fun (u0_9 : Int32) =>
  (some ((u0_9 &&& (858993459 : Int32)) + (((u0_9.toUInt32 >>> ((2 : Int32).toUInt32 &&& Int32.toUInt32 31)).toInt32) &&& (858993459 : Int32)))).bind fun (u0_23 : Int32) =>
  (some ((u0_23 + ((u0_23.toUInt32 >>> ((4 : Int32).toUInt32 &&& Int32.toUInt32 31)).toInt32)) &&& (252645135 : Int32))).bind fun (u0_33 : Int32) =>
  (some (u0_33 + ((u0_33.toUInt32 >>> ((8 : Int32).toUInt32 &&& Int32.toUInt32 31)).toInt32))).bind fun (u0_40 : Int32) =>
  (some (u0_40 + ((u0_40.toUInt32 >>> ((16 : Int32).toUInt32 &&& Int32.toUInt32 31)).toInt32))).bind fun (u0_47 : Int32) =>
  some (u0_47 &&& (63 : Int32))
set_option maxRecDepth 100000 in
set_option maxHeartbeats 4000000 in
theorem Ji_bitCount_ok {G : GT} {l : Launch} (hG : GOK G l)  (v0 : Int32) (P : PH) : OkN G l yJ6_bitCount_0f7a4 miJ6_bitCount_0f7a4 0 0 (tI P) [.int v0] P (Ji_bitCount v0 P) := by
  refine okN_of hG _ [(0, .int v0)] (by decide +kernel) rfl rfl (Nat.le_of_ble_eq_true rfl) rfl ?_
  unfold Ji_bitCount
  refine s_iload_n (pc := 0) 0 dJ6_bitCount_0f7a4_0 rfl rfl ?_
  refine s_iload_n (pc := 1) 0 dJ6_bitCount_0f7a4_1 rfl rfl ?_
  refine s_iconst (pc := 2) (v := 1) dJ6_bitCount_0f7a4_2 rfl ?_
  refine s_iushr (pc := 3) dJ6_bitCount_0f7a4_3 ?_
  refine s_ldcw (pc := 4) (v := 1431655765) dJ6_bitCount_0f7a4_4 (gw_J6_265 hG) ?_
  refine s_iand (pc := 7) dJ6_bitCount_0f7a4_7 ?_
  refine s_isub (pc := 8) dJ6_bitCount_0f7a4_8 ?_
  refine s_letI (fun u0_9 => ?_)
  refine s_istore_n (pc := 9) [(0, .int u0_9)] dJ6_bitCount_0f7a4_9 rfl (Nat.le_of_ble_eq_true rfl) rfl ?_
  refine s_iload_n (pc := 10) 0 dJ6_bitCount_0f7a4_10 rfl rfl ?_
  refine s_ldcw (pc := 11) (v := 858993459) dJ6_bitCount_0f7a4_11 (gw_J6_266 hG) ?_
  refine s_iand (pc := 14) dJ6_bitCount_0f7a4_14 ?_
  refine s_iload_n (pc := 15) 0 dJ6_bitCount_0f7a4_15 rfl rfl ?_
  refine s_iconst (pc := 16) (v := 2) dJ6_bitCount_0f7a4_16 rfl ?_
  refine s_iushr (pc := 17) dJ6_bitCount_0f7a4_17 ?_
  refine s_ldcw (pc := 18) (v := 858993459) dJ6_bitCount_0f7a4_18 (gw_J6_266 hG) ?_
  refine s_iand (pc := 21) dJ6_bitCount_0f7a4_21 ?_
  refine s_iadd (pc := 22) dJ6_bitCount_0f7a4_22 ?_
  refine s_letI (fun u0_23 => ?_)
  refine s_istore_n (pc := 23) [(0, .int u0_23)] dJ6_bitCount_0f7a4_23 rfl (Nat.le_of_ble_eq_true rfl) rfl ?_
  refine s_iload_n (pc := 24) 0 dJ6_bitCount_0f7a4_24 rfl rfl ?_
  refine s_iload_n (pc := 25) 0 dJ6_bitCount_0f7a4_25 rfl rfl ?_
  refine s_iconst (pc := 26) (v := 4) dJ6_bitCount_0f7a4_26 rfl ?_
  refine s_iushr (pc := 27) dJ6_bitCount_0f7a4_27 ?_
  refine s_iadd (pc := 28) dJ6_bitCount_0f7a4_28 ?_
  refine s_ldcw (pc := 29) (v := 252645135) dJ6_bitCount_0f7a4_29 (gw_J6_267 hG) ?_
  refine s_iand (pc := 32) dJ6_bitCount_0f7a4_32 ?_
  refine s_letI (fun u0_33 => ?_)
  refine s_istore_n (pc := 33) [(0, .int u0_33)] dJ6_bitCount_0f7a4_33 rfl (Nat.le_of_ble_eq_true rfl) rfl ?_
  refine s_iload_n (pc := 34) 0 dJ6_bitCount_0f7a4_34 rfl rfl ?_
  refine s_iload_n (pc := 35) 0 dJ6_bitCount_0f7a4_35 rfl rfl ?_
  refine s_bipush (pc := 36) (v := 8) dJ6_bitCount_0f7a4_36 rfl ?_
  refine s_iushr (pc := 38) dJ6_bitCount_0f7a4_38 ?_
  refine s_iadd (pc := 39) dJ6_bitCount_0f7a4_39 ?_
  refine s_letI (fun u0_40 => ?_)
  refine s_istore_n (pc := 40) [(0, .int u0_40)] dJ6_bitCount_0f7a4_40 rfl (Nat.le_of_ble_eq_true rfl) rfl ?_
  refine s_iload_n (pc := 41) 0 dJ6_bitCount_0f7a4_41 rfl rfl ?_
  refine s_iload_n (pc := 42) 0 dJ6_bitCount_0f7a4_42 rfl rfl ?_
  refine s_bipush (pc := 43) (v := 16) dJ6_bitCount_0f7a4_43 rfl ?_
  refine s_iushr (pc := 45) dJ6_bitCount_0f7a4_45 ?_
  refine s_iadd (pc := 46) dJ6_bitCount_0f7a4_46 ?_
  refine s_letI (fun u0_47 => ?_)
  refine s_istore_n (pc := 47) [(0, .int u0_47)] dJ6_bitCount_0f7a4_47 rfl (Nat.le_of_ble_eq_true rfl) rfl ?_
  refine s_iload_n (pc := 48) 0 dJ6_bitCount_0f7a4_48 rfl rfl ?_
  refine s_bipush (pc := 49) (v := 63) dJ6_bitCount_0f7a4_49 rfl ?_
  refine s_iand (pc := 51) dJ6_bitCount_0f7a4_51 ?_
  exact s_iret (pc := 52) dJ6_bitCount_0f7a4_52 rfl rfl
def Sh_goOn  (v1 : Int32) (v2 : Int32) (v3 : Int32) (v4 : Int32) (P : PH) : Option (PH) :=
  (some (v2 &&& (1 : Int32))).bind fun (u5_3 : Int32) =>
  (some (v1 ||| ((1 : Int32) <<< (v2 &&& 31)))).bind fun (u6_10 : Int32) =>
  if u6_10 = v1 then
    some P
  else
    (Sh_reachedBy v1 P).bind fun (x20 : Int32) =>
    if ((x20 >>> ((((2 : Int32) * v3) + u5_3) &&& 31)) &&& (1 : Int32)) = 0 then
      some P
    else
      if u6_10 < 0 then
        some P
      else
        if (4096 : Int32) ≤ u6_10 then
          some P
        else
          gdI u6_10 4096 <|
          gdI u6_10 4096 <|
          (some (sI P 83 u6_10.toNatClampNeg ((P.1 83 u6_10.toNatClampNeg) ||| ((1 : Int32) <<< (((((2 : Int32) * v4) + (1 : Int32)) - u5_3) &&& 31))))).bind fun (P68 : PH) =>
          some P68
set_option maxRecDepth 100000 in
set_option maxHeartbeats 4000000 in
theorem Sh_goOn_ok {G : GT} {l : Launch} (hG : GOK G l)  (v1 : Int32) (v2 : Int32) (v3 : Int32) (v4 : Int32) (P : PH) : OkN G l yX7_goOn miX7_goOn 0 0 tVH [.ref (gA G 82), .int v1, .int v2, .int v3, .int v4] P (Sh_goOn v1 v2 v3 v4 P) := by
  refine okN_of hG _ [(0, .ref (gA G 82)), (1, .int v1), (2, .int v2), (3, .int v3), (4, .int v4)] rfl rfl rfl (Nat.le_of_ble_eq_true rfl) rfl ?_
  unfold Sh_goOn
  refine s_iload_n (pc := 0) 2 dX7_goOn_0 rfl rfl ?_
  refine s_iconst (pc := 1) (v := 1) dX7_goOn_1 rfl ?_
  refine s_iand (pc := 2) dX7_goOn_2 ?_
  refine s_letI (fun u5_3 => ?_)
  refine s_istore (pc := 3) [(5, .int u5_3), (0, .ref (gA G 82)), (1, .int v1), (2, .int v2), (3, .int v3), (4, .int v4)] dX7_goOn_3 (Nat.le_of_ble_eq_true rfl) rfl ?_
  refine s_iload_n (pc := 5) 2 dX7_goOn_5 rfl rfl ?_
  refine s_iconst (pc := 6) (v := 1) dX7_goOn_6 rfl ?_
  refine s_iload_n (pc := 7) 3 dX7_goOn_7 rfl rfl ?_
  refine s_ishl (pc := 8) dX7_goOn_8 ?_
  refine s_ior (pc := 9) dX7_goOn_9 ?_
  refine s_letI (fun u6_10 => ?_)
  refine s_istore (pc := 10) [(6, .int u6_10), (5, .int u5_3), (0, .ref (gA G 82)), (1, .int v1), (2, .int v2), (3, .int v3), (4, .int v4)] dX7_goOn_10 (Nat.le_of_ble_eq_true rfl) rfl ?_
  refine s_iload (pc := 12) 0 dX7_goOn_12 rfl ?_
  refine s_iload_n (pc := 14) 3 dX7_goOn_14 rfl rfl ?_
  refine s_icmp_eq (pc := 15) 69 dX7_goOn_15 rfl ?_ ?_
  · exact s_vret (pc := 69) dX7_goOn_69 rfl rfl
  · refine s_aload_n (pc := 18) 2 dX7_goOn_18 rfl rfl ?_
    refine s_iload_n (pc := 19) 3 dX7_goOn_19 rfl rfl ?_
    refine s_callV (k := 0) (n := 0) (pc := 20) [.int v1] (fun x20 => .int x20 :: []) (fun _ => P) dX7_goOn_20 (cV_X7_100 hG) (Nat.le_of_ble_eq_true rfl) rfl kd_82 (Sh_reachedBy_ok hG v1 P) rfl (fun _ => rfl) (fun _ => rfl) (Nat.le_of_ble_eq_true rfl) rfl rfl (fun x20 => ?_)
    refine s_iconst (pc := 23) (v := 2) dX7_goOn_23 rfl ?_
    refine s_iload_n (pc := 24) 5 dX7_goOn_24 rfl rfl ?_
    refine s_imul (pc := 25) dX7_goOn_25 ?_
    refine s_iload (pc := 26) 1 dX7_goOn_26 rfl ?_
    refine s_iadd (pc := 28) dX7_goOn_28 ?_
    refine s_ishr (pc := 29) dX7_goOn_29 ?_
    refine s_iconst (pc := 30) (v := 1) dX7_goOn_30 rfl ?_
    refine s_iand (pc := 31) dX7_goOn_31 ?_
    refine s_if_eq (pc := 32) 69 dX7_goOn_32 rfl ?_ ?_
    · exact s_vret (pc := 69) dX7_goOn_69 rfl rfl
    · refine s_iload (pc := 35) 0 dX7_goOn_35 rfl ?_
      refine s_if_lt (pc := 37) 69 dX7_goOn_37 rfl ?_ ?_
      · exact s_vret (pc := 69) dX7_goOn_69 rfl rfl
      · refine s_iload (pc := 40) 0 dX7_goOn_40 rfl ?_
        refine s_sipush (pc := 42) (v := 4096) dX7_goOn_42 rfl ?_
        refine s_icmp_ge (pc := 45) 69 dX7_goOn_45 rfl ?_ ?_
        · exact s_vret (pc := 69) dX7_goOn_69 rfl rfl
        · refine s_aload_n (pc := 48) 2 dX7_goOn_48 rfl rfl ?_
          refine s_getR (pc := 49) 83 dX7_goOn_49 (fi_X7_11 hG) kd_82 rfl ?_
          refine s_iload (pc := 52) 0 dX7_goOn_52 rfl ?_
          refine s_dup2 (pc := 54) dX7_goOn_54 rfl rfl ?_
          refine s_iald (pc := 55) 4096 dX7_goOn_55 kd_83 ln_83 ?_
          refine s_iconst (pc := 56) (v := 1) dX7_goOn_56 rfl ?_
          refine s_iconst (pc := 57) (v := 2) dX7_goOn_57 rfl ?_
          refine s_iload (pc := 58) 6 dX7_goOn_58 rfl ?_
          refine s_imul (pc := 60) dX7_goOn_60 ?_
          refine s_iconst (pc := 61) (v := 1) dX7_goOn_61 rfl ?_
          refine s_iadd (pc := 62) dX7_goOn_62 ?_
          refine s_iload (pc := 63) 1 dX7_goOn_63 rfl ?_
          refine s_isub (pc := 65) dX7_goOn_65 ?_
          refine s_ishl (pc := 66) dX7_goOn_66 ?_
          refine s_ior (pc := 67) dX7_goOn_67 ?_
          refine s_iast (pc := 68) 4096 dX7_goOn_68 kd_83 ln_83 ?_
          refine s_letP (fun P68 => ?_)
          exact s_vret (pc := 69) dX7_goOn_69 rfl rfl
def Sh_spread_54  (r18 : Int32 → PH → Option (PH)) (v1 : Int32) (v2 : Int32) (v4 : Int32)  : Nat → Int32 → PH → Option (PH)
  | 0 => fun _ _ => none
  | n + 1 => fun v5 P =>
    if (P.1 82 7) ≤ v5 then
      r18 (v4 + 1) P
    else
      if (6 : Int32) ≤ v5 then
        r18 (v4 + 1) P
      else
        gdI v5 6 <|
        gdI v5 6 <|
        (Sh_goOn v4 ((2 : Int32) * v5) (P.1 86 v5.toNatClampNeg) (P.1 87 v5.toNatClampNeg) P).bind fun (x91 : PH) =>
        gdI v5 6 <|
        gdI v5 6 <|
        (Sh_goOn v4 ((2 : Int32) * v5) (x91.1 87 v5.toNatClampNeg) (x91.1 86 v5.toNatClampNeg) x91).bind fun (x115 : PH) =>
        gdI v5 6 <|
        gdI v5 6 <|
        (Sh_goOn v4 (((2 : Int32) * v5) + (1 : Int32)) (x115.1 86 v5.toNatClampNeg) (x115.1 87 v5.toNatClampNeg) x115).bind fun (x141 : PH) =>
        gdI v5 6 <|
        gdI v5 6 <|
        (Sh_goOn v4 (((2 : Int32) * v5) + (1 : Int32)) (x141.1 87 v5.toNatClampNeg) (x141.1 86 v5.toNatClampNeg) x141).bind fun (x167 : PH) =>
        Sh_spread_54 r18 v1 v2 v4 n (v5 + 1) x167
set_option maxRecDepth 100000 in
set_option maxHeartbeats 4000000 in
theorem Sh_spread_54_sem {G : GT} {l : Launch} (hG : GOK G l)  (v1 : Int32) (v2 : Int32) (v4 : Int32)   (r18 : Int32 → PH → Option (PH)) (hr18 : ∀ (v4 : Int32) (P : PH), Sem G l miX7_spread 0 0 (rn tVH) 18 [(0, .ref (gA G 82)), (1, .int v1), (2, .int v2), (4, .int v4)] [] P (r18 v4 P)) : ∀ (n : Nat) (v5 : Int32) (P : PH), Sem G l miX7_spread 0 0 (rn tVH) 54 [(0, .ref (gA G 82)), (1, .int v1), (2, .int v2), (4, .int v4), (5, .int v5)] [] P (Sh_spread_54 r18 v1 v2 v4 n v5 P) := by
  intro n
  induction n with
  | zero => intro v5 P; exact s_none rfl
  | succ n ih =>
    intro v5 P
    rw [Sh_spread_54]
    refine s_iload (pc := 54) 4 dX7_spread_54 rfl ?_
    refine s_aload_n (pc := 56) 0 dX7_spread_56 rfl rfl ?_
    refine s_getI (pc := 57) dX7_spread_57 (fi_X7_47 hG) kd_82 ?_
    refine s_icmp_ge (pc := 60) 176 dX7_spread_60 rfl ?_ ?_
    · refine s_iinc (pc := 176) 3 1 [(4, .int (v4 + 1)), (0, .ref (gA G 82)), (1, .int v1), (2, .int v2), (5, .int v5)] dX7_spread_176 rfl rfl (Nat.le_of_ble_eq_true rfl) rfl ?_
      refine s_goto (pc := 179) 18 dX7_spread_179 rfl ?_
      refine s_sub [1, 2, 3, 0] rfl ?_
      exact hr18 (v4 + 1) P
    · refine s_iload (pc := 63) 4 dX7_spread_63 rfl ?_
      refine s_bipush (pc := 65) (v := 6) dX7_spread_65 rfl ?_
      refine s_icmp_ge (pc := 67) 176 dX7_spread_67 rfl ?_ ?_
      · refine s_iinc (pc := 176) 3 1 [(4, .int (v4 + 1)), (0, .ref (gA G 82)), (1, .int v1), (2, .int v2), (5, .int v5)] dX7_spread_176 rfl rfl (Nat.le_of_ble_eq_true rfl) rfl ?_
        refine s_goto (pc := 179) 18 dX7_spread_179 rfl ?_
        refine s_sub [1, 2, 3, 0] rfl ?_
        exact hr18 (v4 + 1) P
      · refine s_aload_n (pc := 70) 0 dX7_spread_70 rfl rfl ?_
        refine s_iload (pc := 71) 3 dX7_spread_71 rfl ?_
        refine s_iconst (pc := 73) (v := 2) dX7_spread_73 rfl ?_
        refine s_iload (pc := 74) 4 dX7_spread_74 rfl ?_
        refine s_imul (pc := 76) dX7_spread_76 ?_
        refine s_aload_n (pc := 77) 0 dX7_spread_77 rfl rfl ?_
        refine s_getR (pc := 78) 86 dX7_spread_78 (fi_X7_21 hG) kd_82 rfl ?_
        refine s_iload (pc := 81) 4 dX7_spread_81 rfl ?_
        refine s_iald (pc := 83) 6 dX7_spread_83 kd_86 ln_86 ?_
        refine s_aload_n (pc := 84) 0 dX7_spread_84 rfl rfl ?_
        refine s_getR (pc := 85) 87 dX7_spread_85 (fi_X7_24 hG) kd_82 rfl ?_
        refine s_iload (pc := 88) 4 dX7_spread_88 rfl ?_
        refine s_iald (pc := 90) 6 dX7_spread_90 kd_87 ln_87 ?_
        refine s_callV (k := 0) (n := 0) (pc := 91) [.int v4, .int ((2 : Int32) * v5), .int (P.1 86 v5.toNatClampNeg), .int (P.1 87 v5.toNatClampNeg)] (fun _ => []) (fun x91 => x91) dX7_spread_91 (cV_X7_96 hG) (Nat.le_of_ble_eq_true rfl) rfl kd_82 (Sh_goOn_ok hG v4 ((2 : Int32) * v5) (P.1 86 v5.toNatClampNeg) (P.1 87 v5.toNatClampNeg) P) rfl (fun _ => rfl) (fun _ => rfl) (Nat.le_of_ble_eq_true rfl) rfl rfl (fun x91 => ?_)
        refine s_aload_n (pc := 94) 0 dX7_spread_94 rfl rfl ?_
        refine s_iload (pc := 95) 3 dX7_spread_95 rfl ?_
        refine s_iconst (pc := 97) (v := 2) dX7_spread_97 rfl ?_
        refine s_iload (pc := 98) 4 dX7_spread_98 rfl ?_
        refine s_imul (pc := 100) dX7_spread_100 ?_
        refine s_aload_n (pc := 101) 0 dX7_spread_101 rfl rfl ?_
        refine s_getR (pc := 102) 87 dX7_spread_102 (fi_X7_24 hG) kd_82 rfl ?_
        refine s_iload (pc := 105) 4 dX7_spread_105 rfl ?_
        refine s_iald (pc := 107) 6 dX7_spread_107 kd_87 ln_87 ?_
        refine s_aload_n (pc := 108) 0 dX7_spread_108 rfl rfl ?_
        refine s_getR (pc := 109) 86 dX7_spread_109 (fi_X7_21 hG) kd_82 rfl ?_
        refine s_iload (pc := 112) 4 dX7_spread_112 rfl ?_
        refine s_iald (pc := 114) 6 dX7_spread_114 kd_86 ln_86 ?_
        refine s_callV (k := 0) (n := 0) (pc := 115) [.int v4, .int ((2 : Int32) * v5), .int (x91.1 87 v5.toNatClampNeg), .int (x91.1 86 v5.toNatClampNeg)] (fun _ => []) (fun x115 => x115) dX7_spread_115 (cV_X7_96 hG) (Nat.le_of_ble_eq_true rfl) rfl kd_82 (Sh_goOn_ok hG v4 ((2 : Int32) * v5) (x91.1 87 v5.toNatClampNeg) (x91.1 86 v5.toNatClampNeg) x91) rfl (fun _ => rfl) (fun _ => rfl) (Nat.le_of_ble_eq_true rfl) rfl rfl (fun x115 => ?_)
        refine s_aload_n (pc := 118) 0 dX7_spread_118 rfl rfl ?_
        refine s_iload (pc := 119) 3 dX7_spread_119 rfl ?_
        refine s_iconst (pc := 121) (v := 2) dX7_spread_121 rfl ?_
        refine s_iload (pc := 122) 4 dX7_spread_122 rfl ?_
        refine s_imul (pc := 124) dX7_spread_124 ?_
        refine s_iconst (pc := 125) (v := 1) dX7_spread_125 rfl ?_
        refine s_iadd (pc := 126) dX7_spread_126 ?_
        refine s_aload_n (pc := 127) 0 dX7_spread_127 rfl rfl ?_
        refine s_getR (pc := 128) 86 dX7_spread_128 (fi_X7_21 hG) kd_82 rfl ?_
        refine s_iload (pc := 131) 4 dX7_spread_131 rfl ?_
        refine s_iald (pc := 133) 6 dX7_spread_133 kd_86 ln_86 ?_
        refine s_aload_n (pc := 134) 0 dX7_spread_134 rfl rfl ?_
        refine s_getR (pc := 135) 87 dX7_spread_135 (fi_X7_24 hG) kd_82 rfl ?_
        refine s_iload (pc := 138) 4 dX7_spread_138 rfl ?_
        refine s_iald (pc := 140) 6 dX7_spread_140 kd_87 ln_87 ?_
        refine s_callV (k := 0) (n := 0) (pc := 141) [.int v4, .int (((2 : Int32) * v5) + (1 : Int32)), .int (x115.1 86 v5.toNatClampNeg), .int (x115.1 87 v5.toNatClampNeg)] (fun _ => []) (fun x141 => x141) dX7_spread_141 (cV_X7_96 hG) (Nat.le_of_ble_eq_true rfl) rfl kd_82 (Sh_goOn_ok hG v4 (((2 : Int32) * v5) + (1 : Int32)) (x115.1 86 v5.toNatClampNeg) (x115.1 87 v5.toNatClampNeg) x115) rfl (fun _ => rfl) (fun _ => rfl) (Nat.le_of_ble_eq_true rfl) rfl rfl (fun x141 => ?_)
        refine s_aload_n (pc := 144) 0 dX7_spread_144 rfl rfl ?_
        refine s_iload (pc := 145) 3 dX7_spread_145 rfl ?_
        refine s_iconst (pc := 147) (v := 2) dX7_spread_147 rfl ?_
        refine s_iload (pc := 148) 4 dX7_spread_148 rfl ?_
        refine s_imul (pc := 150) dX7_spread_150 ?_
        refine s_iconst (pc := 151) (v := 1) dX7_spread_151 rfl ?_
        refine s_iadd (pc := 152) dX7_spread_152 ?_
        refine s_aload_n (pc := 153) 0 dX7_spread_153 rfl rfl ?_
        refine s_getR (pc := 154) 87 dX7_spread_154 (fi_X7_24 hG) kd_82 rfl ?_
        refine s_iload (pc := 157) 4 dX7_spread_157 rfl ?_
        refine s_iald (pc := 159) 6 dX7_spread_159 kd_87 ln_87 ?_
        refine s_aload_n (pc := 160) 0 dX7_spread_160 rfl rfl ?_
        refine s_getR (pc := 161) 86 dX7_spread_161 (fi_X7_21 hG) kd_82 rfl ?_
        refine s_iload (pc := 164) 4 dX7_spread_164 rfl ?_
        refine s_iald (pc := 166) 6 dX7_spread_166 kd_86 ln_86 ?_
        refine s_callV (k := 0) (n := 0) (pc := 167) [.int v4, .int (((2 : Int32) * v5) + (1 : Int32)), .int (x141.1 87 v5.toNatClampNeg), .int (x141.1 86 v5.toNatClampNeg)] (fun _ => []) (fun x167 => x167) dX7_spread_167 (cV_X7_96 hG) (Nat.le_of_ble_eq_true rfl) rfl kd_82 (Sh_goOn_ok hG v4 (((2 : Int32) * v5) + (1 : Int32)) (x141.1 87 v5.toNatClampNeg) (x141.1 86 v5.toNatClampNeg) x141) rfl (fun _ => rfl) (fun _ => rfl) (Nat.le_of_ble_eq_true rfl) rfl rfl (fun x167 => ?_)
        refine s_iinc (pc := 170) 4 1 [(5, .int (v5 + 1)), (0, .ref (gA G 82)), (1, .int v1), (2, .int v2), (4, .int v4)] dX7_spread_170 rfl rfl (Nat.le_of_ble_eq_true rfl) rfl ?_
        refine s_goto (pc := 173) 54 dX7_spread_173 rfl ?_
        refine s_sub [1, 2, 3, 4, 0] rfl ?_
        exact ih (v5 + 1) x167
def Sh_spread_18   (v1 : Int32) (v2 : Int32)  : Nat → Int32 → PH → Option (PH)
  | 0 => fun _ _ => none
  | n + 1 => fun v4 P =>
    if v1 ≤ v4 then
      some P
    else
      if (4096 : Int32) ≤ v4 then
        some P
      else
        gdI v4 4096 <|
        if (P.1 83 v4.toNatClampNeg) = 0 then
          Sh_spread_18 v1 v2 n (v4 + 1) P
        else
          (Ji_bitCount v4 P).bind fun (x44 : Int32) =>
          if v2 ≤ x44 then
            Sh_spread_18 v1 v2 n (v4 + 1) P
          else
            Sh_spread_54 (Sh_spread_18 v1 v2 n) v1 v2 v4 bigN (0 : Int32) P
set_option maxRecDepth 100000 in
set_option maxHeartbeats 4000000 in
theorem Sh_spread_18_sem {G : GT} {l : Launch} (hG : GOK G l)  (v1 : Int32) (v2 : Int32)    : ∀ (n : Nat) (v4 : Int32) (P : PH), Sem G l miX7_spread 0 0 (rn tVH) 18 [(0, .ref (gA G 82)), (1, .int v1), (2, .int v2), (4, .int v4)] [] P (Sh_spread_18 v1 v2 n v4 P) := by
  intro n
  induction n with
  | zero => intro v4 P; exact s_none rfl
  | succ n ih =>
    intro v4 P
    rw [Sh_spread_18]
    refine s_iload (pc := 18) 3 dX7_spread_18 rfl ?_
    refine s_iload_n (pc := 20) 1 dX7_spread_20 rfl rfl ?_
    refine s_icmp_ge (pc := 21) 182 dX7_spread_21 rfl ?_ ?_
    · exact s_vret (pc := 182) dX7_spread_182 rfl rfl
    · refine s_iload (pc := 24) 3 dX7_spread_24 rfl ?_
      refine s_sipush (pc := 26) (v := 4096) dX7_spread_26 rfl ?_
      refine s_icmp_ge (pc := 29) 182 dX7_spread_29 rfl ?_ ?_
      · exact s_vret (pc := 182) dX7_spread_182 rfl rfl
      · refine s_aload_n (pc := 32) 0 dX7_spread_32 rfl rfl ?_
        refine s_getR (pc := 33) 83 dX7_spread_33 (fi_X7_11 hG) kd_82 rfl ?_
        refine s_iload (pc := 36) 3 dX7_spread_36 rfl ?_
        refine s_iald (pc := 38) 4096 dX7_spread_38 kd_83 ln_83 ?_
        refine s_if_eq (pc := 39) 176 dX7_spread_39 rfl ?_ ?_
        · refine s_iinc (pc := 176) 3 1 [(4, .int (v4 + 1)), (0, .ref (gA G 82)), (1, .int v1), (2, .int v2)] dX7_spread_176 rfl rfl (Nat.le_of_ble_eq_true rfl) rfl ?_
          refine s_goto (pc := 179) 18 dX7_spread_179 rfl ?_
          refine s_sub [1, 2, 3, 0] rfl ?_
          exact ih (v4 + 1) P
        · refine s_iload (pc := 42) 3 dX7_spread_42 rfl ?_
          refine s_callS (k := 0) (n := 0) (pc := 44) [.int v4] (fun x44 => .int x44 :: []) (fun _ => P) dX7_spread_44 (cS_X7_92 hG) (Nat.le_of_ble_eq_true rfl) rfl (Ji_bitCount_ok hG v4 P) rfl (fun _ => rfl) (fun _ => rfl) (Nat.le_of_ble_eq_true rfl) rfl rfl (fun x44 => ?_)
          refine s_iload_n (pc := 47) 2 dX7_spread_47 rfl rfl ?_
          refine s_icmp_ge (pc := 48) 176 dX7_spread_48 rfl ?_ ?_
          · refine s_iinc (pc := 176) 3 1 [(4, .int (v4 + 1)), (0, .ref (gA G 82)), (1, .int v1), (2, .int v2)] dX7_spread_176 rfl rfl (Nat.le_of_ble_eq_true rfl) rfl ?_
            refine s_goto (pc := 179) 18 dX7_spread_179 rfl ?_
            refine s_sub [1, 2, 3, 0] rfl ?_
            exact ih (v4 + 1) P
          · refine s_iconst (pc := 51) (v := 0) dX7_spread_51 rfl ?_
            refine s_istore (pc := 52) [(5, .int ((0 : Int32))), (0, .ref (gA G 82)), (1, .int v1), (2, .int v2), (4, .int v4)] dX7_spread_52 (Nat.le_of_ble_eq_true rfl) rfl ?_
            refine s_sub [1, 2, 3, 4, 0] rfl ?_
            exact Sh_spread_54_sem hG v1 v2 v4 (Sh_spread_18 v1 v2 n) ih bigN (0 : Int32) P
def Sh_spread  (v1 : Int32) (v2 : Int32) (v3 : Int32) (P : PH) : Option (PH) :=
  (some (rI P 83 (fun _ => (0 : Int32)))).bind fun (P5 : PH) =>
  gdI (0 : Int32) 4096 <|
  (some (sI P5 83 (0 : Int32).toNatClampNeg v3)).bind fun (P14 : PH) =>
  Sh_spread_18 v1 v2 bigN (0 : Int32) P14
set_option maxRecDepth 100000 in
set_option maxHeartbeats 4000000 in
theorem Sh_spread_ok {G : GT} {l : Launch} (hG : GOK G l)  (v1 : Int32) (v2 : Int32) (v3 : Int32) (P : PH) : OkN G l yX7_spread miX7_spread 0 0 tVH [.ref (gA G 82), .int v1, .int v2, .int v3] P (Sh_spread v1 v2 v3 P) := by
  refine okN_of hG _ [(0, .ref (gA G 82)), (1, .int v1), (2, .int v2), (3, .int v3)] rfl rfl rfl (Nat.le_of_ble_eq_true rfl) rfl ?_
  unfold Sh_spread
  refine s_aload_n (pc := 0) 0 dX7_spread_0 rfl rfl ?_
  refine s_getR (pc := 1) 83 dX7_spread_1 (fi_X7_11 hG) kd_82 rfl ?_
  refine s_iconst (pc := 4) (v := 0) dX7_spread_4 rfl ?_
  refine s_fillI (pc := 5) dX7_spread_5 (fl_X7_86 hG) hG kd_83 (Nat.le_of_ble_eq_true rfl) ?_
  refine s_letP (fun P5 => ?_)
  refine s_aload_n (pc := 8) 0 dX7_spread_8 rfl rfl ?_
  refine s_getR (pc := 9) 83 dX7_spread_9 (fi_X7_11 hG) kd_82 rfl ?_
  refine s_iconst (pc := 12) (v := 0) dX7_spread_12 rfl ?_
  refine s_iload_n (pc := 13) 3 dX7_spread_13 rfl rfl ?_
  refine s_iast (pc := 14) 4096 dX7_spread_14 kd_83 ln_83 ?_
  refine s_letP (fun P14 => ?_)
  refine s_iconst (pc := 15) (v := 0) dX7_spread_15 rfl ?_
  refine s_istore (pc := 16) [(4, .int ((0 : Int32))), (0, .ref (gA G 82)), (1, .int v1), (2, .int v2), (3, .int v3)] dX7_spread_16 (Nat.le_of_ble_eq_true rfl) rfl ?_
  refine s_sub [1, 2, 3, 0] rfl ?_
  exact Sh_spread_18_sem hG v1 v2 bigN (0 : Int32) P14
def Sh_fewestOf  (v1 : Int32) (v2 : Int32) (P : PH) : Option (Int32 × PH) :=
  (Dr_linesOf 3 v1 P).bind fun (x5 : Int64) =>
  (Jl_bitCount x5 P).bind fun (x10 : Int32) =>
  if x10 ≤ (6 : Int32) then
    (Sh_gather x5 P).bind fun (x23 : PH) =>
    (some (((1 : Int32) <<< (((2 : Int32) * (x23.1 82 7)) &&& 31)) - (1 : Int32))).bind fun (u5_36 : Int32) =>
    (Sh_knottedEnds x23).bind fun (x39 : Int32) =>
    (Sh_spread u5_36 v2 x39 x23).bind fun (x50 : PH) =>
    (Sh_share u5_36 x39 x50).bind fun (x58 : Int32 × PH) =>
    some (x58.1, x58.2)
  else
    some ((-2 : Int32), P)
set_option maxRecDepth 100000 in
set_option maxHeartbeats 4000000 in
theorem Sh_fewestOf_ok {G : GT} {l : Launch} (hG : GOK G l)  (v1 : Int32) (v2 : Int32) (P : PH) : OkN G l yX7_fewestOf miX7_fewestOf 0 0 tIH [.ref (gA G 82), .int v1, .int v2] P (Sh_fewestOf v1 v2 P) := by
  refine okN_of hG _ [(0, .ref (gA G 82)), (1, .int v1), (2, .int v2)] rfl rfl rfl (Nat.le_of_ble_eq_true rfl) rfl ?_
  unfold Sh_fewestOf
  refine s_aload_n (pc := 0) 0 dX7_fewestOf_0 rfl rfl ?_
  refine s_getR (pc := 1) 3 dX7_fewestOf_1 (fi_X7_27 hG) kd_82 rfl ?_
  refine s_iload_n (pc := 4) 1 dX7_fewestOf_4 rfl rfl ?_
  refine s_callV (k := 0) (n := 0) (pc := 5) [.int v1] (fun x5 => .long x5 :: []) (fun _ => P) dX7_fewestOf_5 (cV_X7_31 hG) (Nat.le_of_ble_eq_true rfl) rfl kd_3 (Dr_linesOf_ok hG 3 kd_3 v1 P) rfl (fun _ => rfl) (fun _ => rfl) (Nat.le_of_ble_eq_true rfl) rfl rfl (fun x5 => ?_)
  refine s_lstore_n (pc := 8) [(3, .long x5), (0, .ref (gA G 82)), (1, .int v1), (2, .int v2)] dX7_fewestOf_8 rfl (Nat.le_of_ble_eq_true rfl) rfl ?_
  refine s_lload_n (pc := 9) 0 dX7_fewestOf_9 rfl rfl ?_
  refine s_callS (k := 0) (n := 0) (pc := 10) [.long x5] (fun x10 => .int x10 :: []) (fun _ => P) dX7_fewestOf_10 (cS_X7_37 hG) (Nat.le_of_ble_eq_true rfl) rfl (Jl_bitCount_ok hG x5 P) rfl (fun _ => rfl) (fun _ => rfl) (Nat.le_of_ble_eq_true rfl) rfl rfl (fun x10 => ?_)
  refine s_bipush (pc := 13) (v := 6) dX7_fewestOf_13 rfl ?_
  refine s_icmp_le (pc := 15) 21 dX7_fewestOf_15 rfl ?_ ?_
  · refine s_aload_n (pc := 21) 1 dX7_fewestOf_21 rfl rfl ?_
    refine s_lload_n (pc := 22) 0 dX7_fewestOf_22 rfl rfl ?_
    refine s_callV (k := 0) (n := 0) (pc := 23) [.long x5] (fun _ => []) (fun x23 => x23) dX7_fewestOf_23 (cV_X7_43 hG) (Nat.le_of_ble_eq_true rfl) rfl kd_82 (Sh_gather_ok hG x5 P) rfl (fun _ => rfl) (fun _ => rfl) (Nat.le_of_ble_eq_true rfl) rfl rfl (fun x23 => ?_)
    refine s_iconst (pc := 26) (v := 1) dX7_fewestOf_26 rfl ?_
    refine s_iconst (pc := 27) (v := 2) dX7_fewestOf_27 rfl ?_
    refine s_aload_n (pc := 28) 1 dX7_fewestOf_28 rfl rfl ?_
    refine s_getI (pc := 29) dX7_fewestOf_29 (fi_X7_47 hG) kd_82 ?_
    refine s_imul (pc := 32) dX7_fewestOf_32 ?_
    refine s_ishl (pc := 33) dX7_fewestOf_33 ?_
    refine s_iconst (pc := 34) (v := 1) dX7_fewestOf_34 rfl ?_
    refine s_isub (pc := 35) dX7_fewestOf_35 ?_
    refine s_letI (fun u5_36 => ?_)
    refine s_istore (pc := 36) [(5, .int u5_36), (3, .long x5), (0, .ref (gA G 82)), (1, .int v1), (2, .int v2)] dX7_fewestOf_36 (Nat.le_of_ble_eq_true rfl) rfl ?_
    refine s_aload_n (pc := 38) 2 dX7_fewestOf_38 rfl rfl ?_
    refine s_callV (k := 0) (n := 0) (pc := 39) [] (fun x39 => .int x39 :: []) (fun _ => x23) dX7_fewestOf_39 (cV_X7_51 hG) (Nat.le_of_ble_eq_true rfl) rfl kd_82 (Sh_knottedEnds_ok hG x23) rfl (fun _ => rfl) (fun _ => rfl) (Nat.le_of_ble_eq_true rfl) rfl rfl (fun x39 => ?_)
    refine s_istore (pc := 42) [(6, .int x39), (5, .int u5_36), (3, .long x5), (0, .ref (gA G 82)), (1, .int v1), (2, .int v2)] dX7_fewestOf_42 (Nat.le_of_ble_eq_true rfl) rfl ?_
    refine s_aload_n (pc := 44) 3 dX7_fewestOf_44 rfl rfl ?_
    refine s_iload (pc := 45) 1 dX7_fewestOf_45 rfl ?_
    refine s_iload_n (pc := 47) 5 dX7_fewestOf_47 rfl rfl ?_
    refine s_iload (pc := 48) 0 dX7_fewestOf_48 rfl ?_
    refine s_callV (k := 0) (n := 0) (pc := 50) [.int u5_36, .int v2, .int x39] (fun _ => []) (fun x50 => x50) dX7_fewestOf_50 (cV_X7_55 hG) (Nat.le_of_ble_eq_true rfl) rfl kd_82 (Sh_spread_ok hG u5_36 v2 x39 x23) rfl (fun _ => rfl) (fun _ => rfl) (Nat.le_of_ble_eq_true rfl) rfl rfl (fun x50 => ?_)
    refine s_aload_n (pc := 53) 3 dX7_fewestOf_53 rfl rfl ?_
    refine s_iload (pc := 54) 1 dX7_fewestOf_54 rfl ?_
    refine s_iload (pc := 56) 0 dX7_fewestOf_56 rfl ?_
    refine s_callV (k := 0) (n := 0) (pc := 58) [.int u5_36, .int x39] (fun x58 => .int (x58.1) :: []) (fun x58 => x58.2) dX7_fewestOf_58 (cV_X7_59 hG) (Nat.le_of_ble_eq_true rfl) rfl kd_82 (Sh_share_ok hG u5_36 x39 x50) rfl (fun _ => rfl) (fun _ => rfl) (Nat.le_of_ble_eq_true rfl) rfl rfl (fun x58 => ?_)
    exact s_iret (pc := 61) dX7_fewestOf_61 rfl rfl
  · refine s_bipush (pc := 18) (v := (-2)) dX7_fewestOf_18 rfl ?_
    exact s_iret (pc := 20) dX7_fewestOf_20 rfl rfl
def Tr_lay  (t : Nat) (v1 : Int32) (v2 : Int32) (P : PH) : Option (PH) :=
  gdP ((1 : Int32) = 0 ∨ (1 : Int32) = 1) <|
  (some (sI P t 0 (1 : Int32))).bind fun (P2 : PH) =>
  (some (sI P2 t 2 v1)).bind fun (P7 : PH) =>
  (some (sI P7 t 1 v2)).bind fun (P12 : PH) =>
  (some (rL P12 (t + 1) (fun _ => (0 : Int64)))).bind fun (P20 : PH) =>
  some P20
set_option maxRecDepth 100000 in
set_option maxHeartbeats 4000000 in
theorem Tr_lay_ok {G : GT} {l : Launch} (hG : GOK G l)  (t : Nat) (ht : kd t = 8) (v1 : Int32) (v2 : Int32) (P : PH) : OkN G l yX8_lay miX8_lay 0 0 tVH [.ref (gA G t), .int v1, .int v2] P (Tr_lay t v1 v2 P) := by
  refine okN_of hG _ [(0, .ref (gA G t)), (1, .int v1), (2, .int v2)] rfl rfl rfl (Nat.le_of_ble_eq_true rfl) rfl ?_
  unfold Tr_lay
  refine s_aload_n (pc := 0) 0 dX8_lay_0 rfl rfl ?_
  refine s_iconst (pc := 1) (v := 1) dX8_lay_1 rfl ?_
  refine s_putZ (pc := 2) dX8_lay_2 (fp_X8_15 hG) ht ?_
  refine s_letP (fun P2 => ?_)
  refine s_aload_n (pc := 5) 0 dX8_lay_5 rfl rfl ?_
  refine s_iload_n (pc := 6) 1 dX8_lay_6 rfl rfl ?_
  refine s_putI (pc := 7) dX8_lay_7 (fp_X8_19 hG) ht ?_
  refine s_letP (fun P7 => ?_)
  refine s_aload_n (pc := 10) 0 dX8_lay_10 rfl rfl ?_
  refine s_iload_n (pc := 11) 2 dX8_lay_11 rfl rfl ?_
  refine s_putI (pc := 12) dX8_lay_12 (fp_X8_23 hG) ht ?_
  refine s_letP (fun P12 => ?_)
  refine s_aload_n (pc := 15) 0 dX8_lay_15 rfl rfl ?_
  refine s_getR (pc := 16) (t + 1) dX8_lay_16 (fi_X8_9 hG) ht rfl ?_
  refine s_lconst (pc := 19) (v := 0) dX8_lay_19 rfl ?_
  refine s_fillL (pc := 20) dX8_lay_20 (fl_X8_26 hG) hG (kdf_8_3 ht).1 (Nat.le_of_ble_eq_true rfl) ?_
  refine s_letP (fun P20 => ?_)
  exact s_vret (pc := 23) dX8_lay_23 rfl rfl
def Tr_cutToSort  (t : Nat) (v1 : Int64) (P : PH) : Option (Int64) :=
  if (P.1 t 2) = 0 then
    some (((v1.toInt32).toInt8.toInt32).toInt64)
  else
  if (P.1 t 2) = 1 then
    some (((v1.toInt32).toInt16.toInt32).toInt64)
  else
  if (P.1 t 2) = 2 then
    some ((v1.toInt32).toInt64)
  else
    some v1
set_option maxRecDepth 100000 in
set_option maxHeartbeats 4000000 in
theorem Tr_cutToSort_ok {G : GT} {l : Launch} (hG : GOK G l)  (t : Nat) (ht : kd t = 8) (v1 : Int64) (P : PH) : OkN G l yX8_cutToSort miX8_cutToSort 0 0 (tL P) [.ref (gA G t), .long v1] P (Tr_cutToSort t v1 P) := by
  refine okN_of hG _ [(0, .ref (gA G t)), (1, .long v1)] rfl rfl rfl (Nat.le_of_ble_eq_true rfl) rfl ?_
  unfold Tr_cutToSort
  refine s_aload_n (pc := 0) 0 dX8_cutToSort_0 rfl rfl ?_
  refine s_getI (pc := 1) dX8_cutToSort_1 (fi_X8_19 hG) ht ?_
  refine s_sw (fun hx0 => ?_) (fun hx0 => ?_)
  · refine s_tin (pc := 4) 32 dX8_cutToSort_4 (by rw [hx0]; decide) (by rw [hx0]; decide) (by rw [hx0]; rfl) rfl ?_
    refine s_lload_n (pc := 32) 1 dX8_cutToSort_32 rfl rfl ?_
    refine s_l2i (pc := 33) dX8_cutToSort_33 ?_
    refine s_i2b (pc := 34) dX8_cutToSort_34 ?_
    refine s_i2l (pc := 35) dX8_cutToSort_35 ?_
    exact s_lret (pc := 36) dX8_cutToSort_36 rfl rfl
  refine s_sw (fun hx1 => ?_) (fun hx1 => ?_)
  · refine s_tin (pc := 4) 37 dX8_cutToSort_4 (by rw [hx1]; decide) (by rw [hx1]; decide) (by rw [hx1]; rfl) rfl ?_
    refine s_lload_n (pc := 37) 1 dX8_cutToSort_37 rfl rfl ?_
    refine s_l2i (pc := 38) dX8_cutToSort_38 ?_
    refine s_i2s (pc := 39) dX8_cutToSort_39 ?_
    refine s_i2l (pc := 40) dX8_cutToSort_40 ?_
    exact s_lret (pc := 41) dX8_cutToSort_41 rfl rfl
  refine s_sw (fun hx2 => ?_) (fun hx2 => ?_)
  · refine s_tin (pc := 4) 42 dX8_cutToSort_4 (by rw [hx2]; decide) (by rw [hx2]; decide) (by rw [hx2]; rfl) rfl ?_
    refine s_lload_n (pc := 42) 1 dX8_cutToSort_42 rfl rfl ?_
    refine s_l2i (pc := 43) dX8_cutToSort_43 ?_
    refine s_i2l (pc := 44) dX8_cutToSort_44 ?_
    exact s_lret (pc := 45) dX8_cutToSort_45 rfl rfl
  refine s_tout (pc := 4) 46 dX8_cutToSort_4 (Classical.byContradiction fun hq => ?_) rfl ?_
  · have h9 : Int32.toInt (P.1 t 2) = 0 ∨ Int32.toInt (P.1 t 2) = 1 ∨ Int32.toInt (P.1 t 2) = 2 := by omega
    rcases h9 with h9 | h9 | h9
    · exact hx0 (Int32.toInt_inj.mp h9)
    · exact hx1 (Int32.toInt_inj.mp h9)
    · exact hx2 (Int32.toInt_inj.mp h9)
  · refine s_lload_n (pc := 46) 1 dX8_cutToSort_46 rfl rfl ?_
    exact s_lret (pc := 47) dX8_cutToSort_47 rfl rfl
def Tr_put  (t : Nat) (v1 : Int32) (v2 : Int64) (P : PH) : Option (Int64 × PH) :=
  if v1 < 0 then
    some ((0 : Int64), P)
  else
    if v1 < (40 : Int32) then
      (Tr_cutToSort t v2 P).bind fun (x22 : Int64) =>
      gdI v1 40 <|
      (some (sL P (t + 1) v1.toNatClampNeg x22)).bind fun (P25 : PH) =>
      gdI v1 40 <|
      some (P25.2 (t + 1) v1.toNatClampNeg, P25)
    else
      some ((0 : Int64), P)
set_option maxRecDepth 100000 in
set_option maxHeartbeats 4000000 in
theorem Tr_put_ok {G : GT} {l : Launch} (hG : GOK G l)  (t : Nat) (ht : kd t = 8) (v1 : Int32) (v2 : Int64) (P : PH) : OkN G l yX8_put miX8_put 0 0 tLH [.ref (gA G t), .int v1, .long v2] P (Tr_put t v1 v2 P) := by
  refine okN_of hG _ [(0, .ref (gA G t)), (1, .int v1), (2, .long v2)] rfl rfl rfl (Nat.le_of_ble_eq_true rfl) rfl ?_
  unfold Tr_put
  refine s_iload_n (pc := 0) 1 dX8_put_0 rfl rfl ?_
  refine s_if_lt (pc := 1) 13 dX8_put_1 rfl ?_ ?_
  · refine s_lconst (pc := 13) (v := 0) dX8_put_13 rfl ?_
    exact s_lret (pc := 14) dX8_put_14 rfl rfl
  · refine s_iload_n (pc := 4) 1 dX8_put_4 rfl rfl ?_
    refine s_aload_n (pc := 5) 0 dX8_put_5 rfl rfl ?_
    refine s_getR (pc := 6) (t + 1) dX8_put_6 (fi_X8_9 hG) ht rfl ?_
    refine s_alen (pc := 9) (t := 2) 40 40 dX8_put_9 (kdf_8_3 ht).1 (Nat.le_of_ble_eq_true rfl) (kdf_8_3 ht).2 rfl ?_
    refine s_icmp_lt (pc := 10) 15 dX8_put_10 rfl ?_ ?_
    · refine s_aload_n (pc := 15) 0 dX8_put_15 rfl rfl ?_
      refine s_getR (pc := 16) (t + 1) dX8_put_16 (fi_X8_9 hG) ht rfl ?_
      refine s_iload_n (pc := 19) 1 dX8_put_19 rfl rfl ?_
      refine s_aload_n (pc := 20) 0 dX8_put_20 rfl rfl ?_
      refine s_lload_n (pc := 21) 2 dX8_put_21 rfl rfl ?_
      refine s_callV (k := 0) (n := 0) (pc := 22) [.long v2] (fun x22 => .long x22 :: [.int v1, .ref (gA G (t + 1))]) (fun _ => P) dX8_put_22 (cV_X8_32 hG) (Nat.le_of_ble_eq_true rfl) rfl ht (Tr_cutToSort_ok hG t ht v2 P) rfl (fun _ => rfl) (fun _ => rfl) (Nat.le_of_ble_eq_true rfl) rfl rfl (fun x22 => ?_)
      refine s_last (pc := 25) 40 dX8_put_25 (kdf_8_3 ht).1 (kdf_8_3 ht).2 ?_
      refine s_letP (fun P25 => ?_)
      refine s_aload_n (pc := 26) 0 dX8_put_26 rfl rfl ?_
      refine s_getR (pc := 27) (t + 1) dX8_put_27 (fi_X8_9 hG) ht rfl ?_
      refine s_iload_n (pc := 30) 1 dX8_put_30 rfl rfl ?_
      refine s_lald (pc := 31) 40 dX8_put_31 (kdf_8_3 ht).1 (kdf_8_3 ht).2 ?_
      exact s_lret (pc := 32) dX8_put_32 rfl rfl
    · refine s_lconst (pc := 13) (v := 0) dX8_put_13 rfl ?_
      exact s_lret (pc := 14) dX8_put_14 rfl rfl
def Tr_wayAt  (t : Nat) (v1 : Int32) (P : PH) : Option (Int32) :=
  if v1 < 0 then
    some (-1 : Int32)
  else
    if (40 : Int32) ≤ v1 then
      some (-1 : Int32)
    else
      gdI v1 40 <|
      if (lg_cmp (P.2 (t + 1) v1.toNatClampNeg) (0 : Int64)) < 0 then
        some (-1 : Int32)
      else
        gdI v1 40 <|
        if (lg_cmp (P.2 (t + 1) v1.toNatClampNeg) (8 : Int64)) < 0 then
          gdI v1 40 <|
          some ((P.2 (t + 1) v1.toNatClampNeg).toInt32)
        else
          some (-1 : Int32)
set_option maxRecDepth 100000 in
set_option maxHeartbeats 4000000 in
theorem Tr_wayAt_ok {G : GT} {l : Launch} (hG : GOK G l)  (t : Nat) (ht : kd t = 8) (v1 : Int32) (P : PH) : OkN G l yX8_wayAt miX8_wayAt 0 0 (tI P) [.ref (gA G t), .int v1] P (Tr_wayAt t v1 P) := by
  refine okN_of hG _ [(0, .ref (gA G t)), (1, .int v1)] rfl rfl rfl (Nat.le_of_ble_eq_true rfl) rfl ?_
  unfold Tr_wayAt
  refine s_iload_n (pc := 0) 1 dX8_wayAt_0 rfl rfl ?_
  refine s_if_lt (pc := 1) 37 dX8_wayAt_1 rfl ?_ ?_
  · refine s_iconst (pc := 37) (v := -1) dX8_wayAt_37 rfl ?_
    exact s_iret (pc := 38) dX8_wayAt_38 rfl rfl
  · refine s_iload_n (pc := 4) 1 dX8_wayAt_4 rfl rfl ?_
    refine s_aload_n (pc := 5) 0 dX8_wayAt_5 rfl rfl ?_
    refine s_getR (pc := 6) (t + 1) dX8_wayAt_6 (fi_X8_9 hG) ht rfl ?_
    refine s_alen (pc := 9) (t := 2) 40 40 dX8_wayAt_9 (kdf_8_3 ht).1 (Nat.le_of_ble_eq_true rfl) (kdf_8_3 ht).2 rfl ?_
    refine s_icmp_ge (pc := 10) 37 dX8_wayAt_10 rfl ?_ ?_
    · refine s_iconst (pc := 37) (v := -1) dX8_wayAt_37 rfl ?_
      exact s_iret (pc := 38) dX8_wayAt_38 rfl rfl
    · refine s_aload_n (pc := 13) 0 dX8_wayAt_13 rfl rfl ?_
      refine s_getR (pc := 14) (t + 1) dX8_wayAt_14 (fi_X8_9 hG) ht rfl ?_
      refine s_iload_n (pc := 17) 1 dX8_wayAt_17 rfl rfl ?_
      refine s_lald (pc := 18) 40 dX8_wayAt_18 (kdf_8_3 ht).1 (kdf_8_3 ht).2 ?_
      refine s_lconst (pc := 19) (v := 0) dX8_wayAt_19 rfl ?_
      refine s_lcmp (pc := 20) dX8_wayAt_20 ?_
      refine s_if_lt (pc := 21) 37 dX8_wayAt_21 rfl ?_ ?_
      · refine s_iconst (pc := 37) (v := -1) dX8_wayAt_37 rfl ?_
        exact s_iret (pc := 38) dX8_wayAt_38 rfl rfl
      · refine s_aload_n (pc := 24) 0 dX8_wayAt_24 rfl rfl ?_
        refine s_getR (pc := 25) (t + 1) dX8_wayAt_25 (fi_X8_9 hG) ht rfl ?_
        refine s_iload_n (pc := 28) 1 dX8_wayAt_28 rfl rfl ?_
        refine s_lald (pc := 29) 40 dX8_wayAt_29 (kdf_8_3 ht).1 (kdf_8_3 ht).2 ?_
        refine s_ldc2 (pc := 30) (v := 8) dX8_wayAt_30 (gw_X8_36 hG) ?_
        refine s_lcmp (pc := 33) dX8_wayAt_33 ?_
        refine s_if_lt (pc := 34) 39 dX8_wayAt_34 rfl ?_ ?_
        · refine s_aload_n (pc := 39) 0 dX8_wayAt_39 rfl rfl ?_
          refine s_getR (pc := 40) (t + 1) dX8_wayAt_40 (fi_X8_9 hG) ht rfl ?_
          refine s_iload_n (pc := 43) 1 dX8_wayAt_43 rfl rfl ?_
          refine s_lald (pc := 44) 40 dX8_wayAt_44 (kdf_8_3 ht).1 (kdf_8_3 ht).2 ?_
          refine s_l2i (pc := 45) dX8_wayAt_45 ?_
          exact s_iret (pc := 46) dX8_wayAt_46 rfl rfl
        · refine s_iconst (pc := 37) (v := -1) dX8_wayAt_37 rfl ?_
          exact s_iret (pc := 38) dX8_wayAt_38 rfl rfl
def Un_goesOver  (v1 : Int32) (P : PH) : Option (Int32) :=
  if (v1 &&& (1 : Int32)) = 0 then
    if (P.1 77 9) = (1 : Int32) then
      gdP ((1 : Int32) = 0 ∨ (1 : Int32) = 1) <|
      some (1 : Int32)
    else
      gdP ((0 : Int32) = 0 ∨ (0 : Int32) = 1) <|
      some (0 : Int32)
  else
    if (P.1 77 9) = (0 : Int32) then
      gdP ((1 : Int32) = 0 ∨ (1 : Int32) = 1) <|
      some (1 : Int32)
    else
      gdP ((0 : Int32) = 0 ∨ (0 : Int32) = 1) <|
      some (0 : Int32)
set_option maxRecDepth 100000 in
set_option maxHeartbeats 4000000 in
theorem Un_goesOver_ok {G : GT} {l : Launch} (hG : GOK G l)  (v1 : Int32) (P : PH) : OkN G l yX9_goesOver miX9_goesOver 0 0 (tI P) [.ref (gA G 77), .int v1] P (Un_goesOver v1 P) := by
  refine okN_of hG _ [(0, .ref (gA G 77)), (1, .int v1)] rfl rfl rfl (Nat.le_of_ble_eq_true rfl) rfl ?_
  unfold Un_goesOver
  refine s_aload_n (pc := 0) 0 dX9_goesOver_0 rfl rfl ?_
  refine s_getI (pc := 1) dX9_goesOver_1 (fi_X9_76 hG) kd_77 ?_
  refine s_iload_n (pc := 4) 1 dX9_goesOver_4 rfl rfl ?_
  refine s_iconst (pc := 5) (v := 1) dX9_goesOver_5 rfl ?_
  refine s_iand (pc := 6) dX9_goesOver_6 ?_
  refine s_if_ne (pc := 7) 14 dX9_goesOver_7 rfl ?_ ?_
  · refine s_iconst (pc := 10) (v := 1) dX9_goesOver_10 rfl ?_
    refine s_goto (pc := 11) 15 dX9_goesOver_11 rfl ?_
    refine s_icmp_ne (pc := 15) 22 dX9_goesOver_15 rfl ?_ ?_
    · refine s_iconst (pc := 18) (v := 1) dX9_goesOver_18 rfl ?_
      refine s_goto (pc := 19) 23 dX9_goesOver_19 rfl ?_
      exact s_zret (pc := 23) dX9_goesOver_23 rfl rfl
    · refine s_iconst (pc := 22) (v := 0) dX9_goesOver_22 rfl ?_
      exact s_zret (pc := 23) dX9_goesOver_23 rfl rfl
  · refine s_iconst (pc := 14) (v := 0) dX9_goesOver_14 rfl ?_
    refine s_icmp_ne (pc := 15) 22 dX9_goesOver_15 rfl ?_ ?_
    · refine s_iconst (pc := 18) (v := 1) dX9_goesOver_18 rfl ?_
      refine s_goto (pc := 19) 23 dX9_goesOver_19 rfl ?_
      exact s_zret (pc := 23) dX9_goesOver_23 rfl rfl
    · refine s_iconst (pc := 22) (v := 0) dX9_goesOver_22 rfl ?_
      exact s_zret (pc := 23) dX9_goesOver_23 rfl rfl
def Un_put  (v1 : Int32) (v2 : Int32) (P : PH) : Option (Int32 × PH) :=
  (some ((P.1 77 8) - v2)).bind fun (u3_6 : Int32) =>
  if v1 < 0 then
    gdP ((0 : Int32) = 0 ∨ (0 : Int32) = 1) <|
    some ((0 : Int32), P)
  else
    if v2 < 0 then
      gdP ((0 : Int32) = 0 ∨ (0 : Int32) = 1) <|
      some ((0 : Int32), P)
    else
      if u3_6 < v1 then
        gdP ((0 : Int32) = 0 ∨ (0 : Int32) = 1) <|
        some ((0 : Int32), P)
      else
        if (121 : Int32) ≤ u3_6 then
          gdP ((0 : Int32) = 0 ∨ (0 : Int32) = 1) <|
          some ((0 : Int32), P)
        else
          if (P.1 77 8) < (121 : Int32) then
            gdI v1 121 <|
            gdI (P.1 77 8) 121 <|
            gdI u3_6 121 <|
            (some ((P.2 79 v1.toNatClampNeg) ||| ((P.2 79 (P.1 77 8).toNatClampNeg) ^^^ (P.2 79 u3_6.toNatClampNeg)))).bind fun (u4_66 : Int64) =>
            gdI v1 121 <|
            gdI (P.1 77 8) 121 <|
            gdI u3_6 121 <|
            (some ((P.2 80 v1.toNatClampNeg) ||| ((P.2 80 (P.1 77 8).toNatClampNeg) ^^^ (P.2 80 u3_6.toNatClampNeg)))).bind fun (u6_91 : Int64) =>
            gdI u3_6 121 <|
            (Un_goesOver u3_6 P).bind fun (x119 : Int32) =>
            (Rs_put ((P.2 77 10) ||| u4_66) ((P.2 77 11) ||| u6_91) (P.1 78 u3_6.toNatClampNeg) x119 P).bind fun (x122 : PH) =>
            gdP ((1 : Int32) = 0 ∨ (1 : Int32) = 1) <|
            some ((1 : Int32), x122)
          else
            gdP ((0 : Int32) = 0 ∨ (0 : Int32) = 1) <|
            some ((0 : Int32), P)
set_option maxRecDepth 100000 in
set_option maxHeartbeats 4000000 in
theorem Un_put_ok {G : GT} {l : Launch} (hG : GOK G l)  (v1 : Int32) (v2 : Int32) (P : PH) : OkN G l yX9_put miX9_put 0 0 tIH [.ref (gA G 77), .int v1, .int v2] P (Un_put v1 v2 P) := by
  refine okN_of hG _ [(0, .ref (gA G 77)), (1, .int v1), (2, .int v2)] rfl rfl rfl (Nat.le_of_ble_eq_true rfl) rfl ?_
  unfold Un_put
  refine s_aload_n (pc := 0) 0 dX9_put_0 rfl rfl ?_
  refine s_getI (pc := 1) dX9_put_1 (fi_X9_44 hG) kd_77 ?_
  refine s_iload_n (pc := 4) 2 dX9_put_4 rfl rfl ?_
  refine s_isub (pc := 5) dX9_put_5 ?_
  refine s_letI (fun u3_6 => ?_)
  refine s_istore_n (pc := 6) [(3, .int u3_6), (0, .ref (gA G 77)), (1, .int v1), (2, .int v2)] dX9_put_6 rfl (Nat.le_of_ble_eq_true rfl) rfl ?_
  refine s_iload_n (pc := 7) 2 dX9_put_7 rfl rfl ?_
  refine s_if_lt (pc := 8) 41 dX9_put_8 rfl ?_ ?_
  · refine s_iconst (pc := 41) (v := 0) dX9_put_41 rfl ?_
    exact s_zret (pc := 42) dX9_put_42 rfl rfl
  · refine s_iload_n (pc := 11) 3 dX9_put_11 rfl rfl ?_
    refine s_if_lt (pc := 12) 41 dX9_put_12 rfl ?_ ?_
    · refine s_iconst (pc := 41) (v := 0) dX9_put_41 rfl ?_
      exact s_zret (pc := 42) dX9_put_42 rfl rfl
    · refine s_iload_n (pc := 15) 2 dX9_put_15 rfl rfl ?_
      refine s_iload_n (pc := 16) 0 dX9_put_16 rfl rfl ?_
      refine s_icmp_gt (pc := 17) 41 dX9_put_17 rfl ?_ ?_
      · refine s_iconst (pc := 41) (v := 0) dX9_put_41 rfl ?_
        exact s_zret (pc := 42) dX9_put_42 rfl rfl
      · refine s_iload_n (pc := 20) 0 dX9_put_20 rfl rfl ?_
        refine s_aload_n (pc := 21) 1 dX9_put_21 rfl rfl ?_
        refine s_getR (pc := 22) 78 dX9_put_22 (fi_X9_9 hG) kd_77 rfl ?_
        refine s_alen (pc := 25) (t := 1) 121 121 dX9_put_25 kd_78 (Nat.le_of_ble_eq_true rfl) ln_78 rfl ?_
        refine s_icmp_ge (pc := 26) 41 dX9_put_26 rfl ?_ ?_
        · refine s_iconst (pc := 41) (v := 0) dX9_put_41 rfl ?_
          exact s_zret (pc := 42) dX9_put_42 rfl rfl
        · refine s_aload_n (pc := 29) 1 dX9_put_29 rfl rfl ?_
          refine s_getI (pc := 30) dX9_put_30 (fi_X9_44 hG) kd_77 ?_
          refine s_aload_n (pc := 33) 1 dX9_put_33 rfl rfl ?_
          refine s_getR (pc := 34) 78 dX9_put_34 (fi_X9_9 hG) kd_77 rfl ?_
          refine s_alen (pc := 37) (t := 1) 121 121 dX9_put_37 kd_78 (Nat.le_of_ble_eq_true rfl) ln_78 rfl ?_
          refine s_icmp_lt (pc := 38) 43 dX9_put_38 rfl ?_ ?_
          · refine s_aload_n (pc := 43) 1 dX9_put_43 rfl rfl ?_
            refine s_getR (pc := 44) 79 dX9_put_44 (fi_X9_15 hG) kd_77 rfl ?_
            refine s_iload_n (pc := 47) 2 dX9_put_47 rfl rfl ?_
            refine s_lald (pc := 48) 121 dX9_put_48 kd_79 ln_79 ?_
            refine s_aload_n (pc := 49) 1 dX9_put_49 rfl rfl ?_
            refine s_getR (pc := 50) 79 dX9_put_50 (fi_X9_15 hG) kd_77 rfl ?_
            refine s_aload_n (pc := 53) 1 dX9_put_53 rfl rfl ?_
            refine s_getI (pc := 54) dX9_put_54 (fi_X9_44 hG) kd_77 ?_
            refine s_lald (pc := 57) 121 dX9_put_57 kd_79 ln_79 ?_
            refine s_aload_n (pc := 58) 1 dX9_put_58 rfl rfl ?_
            refine s_getR (pc := 59) 79 dX9_put_59 (fi_X9_15 hG) kd_77 rfl ?_
            refine s_iload_n (pc := 62) 0 dX9_put_62 rfl rfl ?_
            refine s_lald (pc := 63) 121 dX9_put_63 kd_79 ln_79 ?_
            refine s_lxor (pc := 64) dX9_put_64 ?_
            refine s_lor (pc := 65) dX9_put_65 ?_
            refine s_letL (fun u4_66 => ?_)
            refine s_lstore (pc := 66) [(4, .long u4_66), (3, .int u3_6), (0, .ref (gA G 77)), (1, .int v1), (2, .int v2)] dX9_put_66 (Nat.le_of_ble_eq_true rfl) rfl ?_
            refine s_aload_n (pc := 68) 2 dX9_put_68 rfl rfl ?_
            refine s_getR (pc := 69) 80 dX9_put_69 (fi_X9_19 hG) kd_77 rfl ?_
            refine s_iload_n (pc := 72) 3 dX9_put_72 rfl rfl ?_
            refine s_lald (pc := 73) 121 dX9_put_73 kd_80 ln_80 ?_
            refine s_aload_n (pc := 74) 2 dX9_put_74 rfl rfl ?_
            refine s_getR (pc := 75) 80 dX9_put_75 (fi_X9_19 hG) kd_77 rfl ?_
            refine s_aload_n (pc := 78) 2 dX9_put_78 rfl rfl ?_
            refine s_getI (pc := 79) dX9_put_79 (fi_X9_44 hG) kd_77 ?_
            refine s_lald (pc := 82) 121 dX9_put_82 kd_80 ln_80 ?_
            refine s_aload_n (pc := 83) 2 dX9_put_83 rfl rfl ?_
            refine s_getR (pc := 84) 80 dX9_put_84 (fi_X9_19 hG) kd_77 rfl ?_
            refine s_iload_n (pc := 87) 1 dX9_put_87 rfl rfl ?_
            refine s_lald (pc := 88) 121 dX9_put_88 kd_80 ln_80 ?_
            refine s_lxor (pc := 89) dX9_put_89 ?_
            refine s_lor (pc := 90) dX9_put_90 ?_
            refine s_letL (fun u6_91 => ?_)
            refine s_lstore (pc := 91) [(6, .long u6_91), (4, .long u4_66), (3, .int u3_6), (0, .ref (gA G 77)), (1, .int v1), (2, .int v2)] dX9_put_91 (Nat.le_of_ble_eq_true rfl) rfl ?_
            refine s_aload_n (pc := 93) 3 dX9_put_93 rfl rfl ?_
            refine s_getR (pc := 94) 75 dX9_put_94 (fi_X9_29 hG) kd_77 rfl ?_
            refine s_aload_n (pc := 97) 3 dX9_put_97 rfl rfl ?_
            refine s_getL (pc := 98) dX9_put_98 (fi_X9_87 hG) kd_77 ?_
            refine s_lload (pc := 101) 1 dX9_put_101 rfl ?_
            refine s_lor (pc := 103) dX9_put_103 ?_
            refine s_aload_n (pc := 104) 3 dX9_put_104 rfl rfl ?_
            refine s_getL (pc := 105) dX9_put_105 (fi_X9_93 hG) kd_77 ?_
            refine s_lload (pc := 108) 0 dX9_put_108 rfl ?_
            refine s_lor (pc := 110) dX9_put_110 ?_
            refine s_aload_n (pc := 111) 3 dX9_put_111 rfl rfl ?_
            refine s_getR (pc := 112) 78 dX9_put_112 (fi_X9_9 hG) kd_77 rfl ?_
            refine s_iload_n (pc := 115) 2 dX9_put_115 rfl rfl ?_
            refine s_iald (pc := 116) 121 dX9_put_116 kd_78 ln_78 ?_
            refine s_aload_n (pc := 117) 3 dX9_put_117 rfl rfl ?_
            refine s_iload_n (pc := 118) 2 dX9_put_118 rfl rfl ?_
            refine s_callV (k := 0) (n := 0) (pc := 119) [.int u3_6] (fun x119 => .int x119 :: [.int (P.1 78 u3_6.toNatClampNeg), .long ((P.2 77 11) ||| u6_91), .long ((P.2 77 10) ||| u4_66), .ref (gA G 75)]) (fun _ => P) dX9_put_119 (cV_X9_107 hG) (Nat.le_of_ble_eq_true rfl) rfl kd_77 (Un_goesOver_ok hG u3_6 P) rfl (fun _ => rfl) (fun _ => rfl) (Nat.le_of_ble_eq_true rfl) rfl rfl (fun x119 => ?_)
            refine s_callV (k := 0) (n := 0) (pc := 122) [.long ((P.2 77 10) ||| u4_66), .long ((P.2 77 11) ||| u6_91), .int (P.1 78 u3_6.toNatClampNeg), .int x119] (fun _ => []) (fun x122 => x122) dX9_put_122 (cV_X9_114 hG) (Nat.le_of_ble_eq_true rfl) rfl kd_75 (Rs_put_ok hG ((P.2 77 10) ||| u4_66) ((P.2 77 11) ||| u6_91) (P.1 78 u3_6.toNatClampNeg) x119 P) rfl (fun _ => rfl) (fun _ => rfl) (Nat.le_of_ble_eq_true rfl) rfl rfl (fun x122 => ?_)
            refine s_iconst (pc := 125) (v := 1) dX9_put_125 rfl ?_
            exact s_zret (pc := 126) dX9_put_126 rfl rfl
          · refine s_iconst (pc := 41) (v := 0) dX9_put_41 rfl ?_
            exact s_zret (pc := 42) dX9_put_42 rfl rfl
def Un_findOf_46   (v1 : Int32) (v3 : Int32) (P : PH) : Option (PH) :=
  (some (sI P 77 0 v3)).bind fun (P48 : PH) =>
  (some (sI P48 77 1 (v1 - v3))).bind fun (P55 : PH) =>
  some P55
set_option maxRecDepth 100000 in
set_option maxHeartbeats 4000000 in
theorem Un_findOf_46_sem {G : GT} {l : Launch} (hG : GOK G l)  (v1 : Int32) (v3 : Int32) (P : PH)   : Sem G l miX9_findOf 0 0 (rn tVH) 46 [(0, .ref (gA G 77)), (1, .int v1), (3, .int v3)] [] P (Un_findOf_46 v1 v3 P) := by
  unfold Un_findOf_46
  refine s_aload_n (pc := 46) 0 dX9_findOf_46 rfl rfl ?_
  refine s_iload_n (pc := 47) 2 dX9_findOf_47 rfl rfl ?_
  refine s_putI (pc := 48) dX9_findOf_48 (fp_X9_37 hG) kd_77 ?_
  refine s_letP (fun P48 => ?_)
  refine s_aload_n (pc := 51) 0 dX9_findOf_51 rfl rfl ?_
  refine s_iload_n (pc := 52) 1 dX9_findOf_52 rfl rfl ?_
  refine s_iload_n (pc := 53) 2 dX9_findOf_53 rfl rfl ?_
  refine s_isub (pc := 54) dX9_findOf_54 ?_
  refine s_putI (pc := 55) dX9_findOf_55 (fp_X9_41 hG) kd_77 ?_
  refine s_letP (fun P55 => ?_)
  exact s_vret (pc := 58) dX9_findOf_58 rfl rfl
def Un_findOf_2   (v1 : Int32) (v2 : Int32)  : Nat → Int32 → PH → Option (PH)
  | 0 => fun _ _ => none
  | n + 1 => fun v3 P =>
    if v2 < v3 then
      some P
    else
      if (121 : Int32) ≤ v3 then
        some P
      else
        gdI v3 121 <|
        if (P.1 81 v3.toNatClampNeg) = 0 then
          Un_findOf_2 v1 v2 n (v3 + 1) P
        else
          (Un_put v3 (v1 - v3) P).bind fun (x30 : Int32 × PH) =>
          if x30.1 = 0 then
            Un_findOf_2 v1 v2 n (v3 + 1) x30.2
          else
            (Rs_hangs x30.2).bind fun (x40 : Int32) =>
            if x40 = 0 then
              Un_findOf_2 v1 v2 n (v3 + 1) x30.2
            else
              Un_findOf_46 v1 v3 x30.2
set_option maxRecDepth 100000 in
set_option maxHeartbeats 4000000 in
theorem Un_findOf_2_sem {G : GT} {l : Launch} (hG : GOK G l)  (v1 : Int32) (v2 : Int32)    : ∀ (n : Nat) (v3 : Int32) (P : PH), Sem G l miX9_findOf 0 0 (rn tVH) 2 [(0, .ref (gA G 77)), (1, .int v1), (2, .int v2), (3, .int v3)] [] P (Un_findOf_2 v1 v2 n v3 P) := by
  intro n
  induction n with
  | zero => intro v3 P; exact s_none rfl
  | succ n ih =>
    intro v3 P
    rw [Un_findOf_2]
    refine s_iload_n (pc := 2) 3 dX9_findOf_2 rfl rfl ?_
    refine s_iload_n (pc := 3) 2 dX9_findOf_3 rfl rfl ?_
    refine s_icmp_gt (pc := 4) 65 dX9_findOf_4 rfl ?_ ?_
    · exact s_vret (pc := 65) dX9_findOf_65 rfl rfl
    · refine s_iload_n (pc := 7) 3 dX9_findOf_7 rfl rfl ?_
      refine s_aload_n (pc := 8) 0 dX9_findOf_8 rfl rfl ?_
      refine s_getR (pc := 9) 81 dX9_findOf_9 (fi_X9_22 hG) kd_77 rfl ?_
      refine s_alen (pc := 12) (t := 1) 121 121 dX9_findOf_12 kd_81 (Nat.le_of_ble_eq_true rfl) ln_81 rfl ?_
      refine s_icmp_ge (pc := 13) 65 dX9_findOf_13 rfl ?_ ?_
      · exact s_vret (pc := 65) dX9_findOf_65 rfl rfl
      · refine s_aload_n (pc := 16) 0 dX9_findOf_16 rfl rfl ?_
        refine s_getR (pc := 17) 81 dX9_findOf_17 (fi_X9_22 hG) kd_77 rfl ?_
        refine s_iload_n (pc := 20) 3 dX9_findOf_20 rfl rfl ?_
        refine s_iald (pc := 21) 121 dX9_findOf_21 kd_81 ln_81 ?_
        refine s_if_eq (pc := 22) 59 dX9_findOf_22 rfl ?_ ?_
        · refine s_iinc (pc := 59) 3 1 [(3, .int (v3 + 1)), (0, .ref (gA G 77)), (1, .int v1), (2, .int v2)] dX9_findOf_59 rfl rfl (Nat.le_of_ble_eq_true rfl) rfl ?_
          refine s_goto (pc := 62) 2 dX9_findOf_62 rfl ?_
          refine s_sub [1, 2, 3, 0] rfl ?_
          exact ih (v3 + 1) P
        · refine s_aload_n (pc := 25) 0 dX9_findOf_25 rfl rfl ?_
          refine s_iload_n (pc := 26) 3 dX9_findOf_26 rfl rfl ?_
          refine s_iload_n (pc := 27) 1 dX9_findOf_27 rfl rfl ?_
          refine s_iload_n (pc := 28) 3 dX9_findOf_28 rfl rfl ?_
          refine s_isub (pc := 29) dX9_findOf_29 ?_
          refine s_callV (k := 0) (n := 0) (pc := 30) [.int v3, .int (v1 - v3)] (fun x30 => .int (x30.1) :: []) (fun x30 => x30.2) dX9_findOf_30 (cV_X9_47 hG) (Nat.le_of_ble_eq_true rfl) rfl kd_77 (Un_put_ok hG v3 (v1 - v3) P) rfl (fun _ => rfl) (fun _ => rfl) (Nat.le_of_ble_eq_true rfl) rfl rfl (fun x30 => ?_)
          refine s_if_eq (pc := 33) 59 dX9_findOf_33 rfl ?_ ?_
          · refine s_iinc (pc := 59) 3 1 [(3, .int (v3 + 1)), (0, .ref (gA G 77)), (1, .int v1), (2, .int v2)] dX9_findOf_59 rfl rfl (Nat.le_of_ble_eq_true rfl) rfl ?_
            refine s_goto (pc := 62) 2 dX9_findOf_62 rfl ?_
            refine s_sub [1, 2, 3, 0] rfl ?_
            exact ih (v3 + 1) x30.2
          · refine s_aload_n (pc := 36) 0 dX9_findOf_36 rfl rfl ?_
            refine s_getR (pc := 37) 75 dX9_findOf_37 (fi_X9_29 hG) kd_77 rfl ?_
            refine s_callV (k := 0) (n := 0) (pc := 40) [] (fun x40 => .int x40 :: []) (fun _ => x30.2) dX9_findOf_40 (cV_X9_61 hG) (Nat.le_of_ble_eq_true rfl) rfl kd_75 (Rs_hangs_ok hG x30.2) rfl (fun _ => rfl) (fun _ => rfl) (Nat.le_of_ble_eq_true rfl) rfl rfl (fun x40 => ?_)
            refine s_if_eq (pc := 43) 59 dX9_findOf_43 rfl ?_ ?_
            · refine s_iinc (pc := 59) 3 1 [(3, .int (v3 + 1)), (0, .ref (gA G 77)), (1, .int v1), (2, .int v2)] dX9_findOf_59 rfl rfl (Nat.le_of_ble_eq_true rfl) rfl ?_
              refine s_goto (pc := 62) 2 dX9_findOf_62 rfl ?_
              refine s_sub [1, 2, 3, 0] rfl ?_
              exact ih (v3 + 1) x30.2
            · refine s_sub [0, 1, 3] rfl ?_
              exact Un_findOf_46_sem hG v1 v3 x30.2
def Un_findOf  (v1 : Int32) (v2 : Int32) (P : PH) : Option (PH) :=
  Un_findOf_2 v1 v2 bigN (0 : Int32) P
set_option maxRecDepth 100000 in
set_option maxHeartbeats 4000000 in
theorem Un_findOf_ok {G : GT} {l : Launch} (hG : GOK G l)  (v1 : Int32) (v2 : Int32) (P : PH) : OkN G l yX9_findOf miX9_findOf 0 0 tVH [.ref (gA G 77), .int v1, .int v2] P (Un_findOf v1 v2 P) := by
  refine okN_of hG _ [(0, .ref (gA G 77)), (1, .int v1), (2, .int v2)] rfl rfl rfl (Nat.le_of_ble_eq_true rfl) rfl ?_
  unfold Un_findOf
  refine s_iconst (pc := 0) (v := 0) dX9_findOf_0 rfl ?_
  refine s_istore_n (pc := 1) [(3, .int ((0 : Int32))), (0, .ref (gA G 77)), (1, .int v1), (2, .int v2)] dX9_findOf_1 rfl (Nat.le_of_ble_eq_true rfl) rfl ?_
  refine s_sub [1, 2, 3, 0] rfl ?_
  exact Un_findOf_2_sem hG v1 v2 bigN (0 : Int32) P
