def Re_openBlock_19    (P : PH) : Option (PH) :=
  (Re_fail (4 : Int32) P).bind fun (x21 : PH) =>
  some x21
set_option maxRecDepth 100000 in
set_option maxHeartbeats 4000000 in
theorem Re_openBlock_19_sem {G : GT} {l : Launch} (hG : GOK G l)   (P : PH)   : Sem G l miX4_openBlock 0 0 (rn tVH) 19 [(0, .ref (gA G 71))] [] P (Re_openBlock_19 P) := by
  unfold Re_openBlock_19
  refine s_aload_n (pc := 19) 0 dX4_openBlock_19 rfl rfl ?_
  refine s_iconst (pc := 20) (v := 4) dX4_openBlock_20 rfl ?_
  refine s_callV (k := 0) (n := 0) (pc := 21) [.int ((4 : Int32))] (fun _ => []) (fun x21 => x21) dX4_openBlock_21 (cV_X4_77 hG) (Nat.le_of_ble_eq_true rfl) rfl kd_71 (Re_fail_ok hG (4 : Int32) P) rfl (fun _ => rfl) (fun _ => rfl) (Nat.le_of_ble_eq_true rfl) rfl rfl (fun x21 => ?_)
  exact s_vret (pc := 24) dX4_openBlock_24 rfl rfl
def Re_openBlock   (P : PH) : Option (PH) :=
  if (P.1 71 10) < 0 then
    Re_openBlock_19 P
  else
    if (P.1 71 10) < (5 : Int32) then
      gdI (P.1 71 10) 5 <|
      (some (sI P 73 (P.1 71 10).toNatClampNeg (P.1 66 0))).bind fun (P40 : PH) =>
      (some (sI P40 71 10 ((P40.1 71 10) + (1 : Int32)))).bind fun (P48 : PH) =>
      some P48
    else
      Re_openBlock_19 P
set_option maxRecDepth 100000 in
set_option maxHeartbeats 4000000 in
theorem Re_openBlock_ok {G : GT} {l : Launch} (hG : GOK G l)   (P : PH) : OkN G l yX4_openBlock miX4_openBlock 0 0 tVH [.ref (gA G 71)] P (Re_openBlock P) := by
  refine okN_of hG _ [(0, .ref (gA G 71))] rfl rfl rfl (Nat.le_of_ble_eq_true rfl) rfl ?_
  unfold Re_openBlock
  refine s_aload_n (pc := 0) 0 dX4_openBlock_0 rfl rfl ?_
  refine s_getI (pc := 1) dX4_openBlock_1 (fi_X4_39 hG) kd_71 ?_
  refine s_if_lt (pc := 4) 19 dX4_openBlock_4 rfl ?_ ?_
  · exact Re_openBlock_19_sem hG P
  · refine s_aload_n (pc := 7) 0 dX4_openBlock_7 rfl rfl ?_
    refine s_getI (pc := 8) dX4_openBlock_8 (fi_X4_39 hG) kd_71 ?_
    refine s_aload_n (pc := 11) 0 dX4_openBlock_11 rfl rfl ?_
    refine s_getR (pc := 12) 73 dX4_openBlock_12 (fi_X4_15 hG) kd_71 rfl ?_
    refine s_alen (pc := 15) (t := 1) 5 5 dX4_openBlock_15 kd_73 (Nat.le_of_ble_eq_true rfl) ln_73 rfl ?_
    refine s_icmp_lt (pc := 16) 25 dX4_openBlock_16 rfl ?_ ?_
    · refine s_aload_n (pc := 25) 0 dX4_openBlock_25 rfl rfl ?_
      refine s_getR (pc := 26) 73 dX4_openBlock_26 (fi_X4_15 hG) kd_71 rfl ?_
      refine s_aload_n (pc := 29) 0 dX4_openBlock_29 rfl rfl ?_
      refine s_getI (pc := 30) dX4_openBlock_30 (fi_X4_39 hG) kd_71 ?_
      refine s_aload_n (pc := 33) 0 dX4_openBlock_33 rfl rfl ?_
      refine s_getR (pc := 34) 66 dX4_openBlock_34 (fi_X4_19 hG) kd_71 rfl ?_
      refine s_getI (pc := 37) dX4_openBlock_37 (fi_X4_90 hG) kd_66 ?_
      refine s_iast (pc := 40) 5 dX4_openBlock_40 kd_73 ln_73 ?_
      refine s_letP (fun P40 => ?_)
      refine s_aload_n (pc := 41) 0 dX4_openBlock_41 rfl rfl ?_
      refine s_dup (pc := 42) dX4_openBlock_42 rfl ?_
      refine s_getI (pc := 43) dX4_openBlock_43 (fi_X4_39 hG) kd_71 ?_
      refine s_iconst (pc := 46) (v := 1) dX4_openBlock_46 rfl ?_
      refine s_iadd (pc := 47) dX4_openBlock_47 ?_
      refine s_putI (pc := 48) dX4_openBlock_48 (fp_X4_39 hG) kd_71 ?_
      refine s_letP (fun P48 => ?_)
      exact s_vret (pc := 51) dX4_openBlock_51 rfl rfl
    · exact Re_openBlock_19_sem hG P
def Sc_add  (v1 : Int32) (v2 : Int32) (v3 : Int32) (v4 : Int32) (P : PH) : Option (PH) :=
  if (P.1 66 0) < 0 then
    some P
  else
    if (200 : Int32) ≤ (P.1 66 0) then
      some P
    else
      gdI (P.1 66 0) 200 <|
      (some (sI P 67 (P.1 66 0).toNatClampNeg v1)).bind fun (P26 : PH) =>
      gdI (P26.1 66 0) 200 <|
      (some (sI P26 68 (P26.1 66 0).toNatClampNeg v2)).bind fun (P36 : PH) =>
      gdI (P36.1 66 0) 200 <|
      (some (sI P36 69 (P36.1 66 0).toNatClampNeg v3)).bind fun (P46 : PH) =>
      gdI (P46.1 66 0) 200 <|
      (some (sI P46 70 (P46.1 66 0).toNatClampNeg v4)).bind fun (P57 : PH) =>
      (some (sI P57 66 0 ((P57.1 66 0) + (1 : Int32)))).bind fun (P65 : PH) =>
      some P65
set_option maxRecDepth 100000 in
set_option maxHeartbeats 4000000 in
theorem Sc_add_ok {G : GT} {l : Launch} (hG : GOK G l)  (v1 : Int32) (v2 : Int32) (v3 : Int32) (v4 : Int32) (P : PH) : OkN G l yX6_add miX6_add 0 0 tVH [.ref (gA G 66), .int v1, .int v2, .int v3, .int v4] P (Sc_add v1 v2 v3 v4 P) := by
  refine okN_of hG _ [(0, .ref (gA G 66)), (1, .int v1), (2, .int v2), (3, .int v3), (4, .int v4)] rfl rfl rfl (Nat.le_of_ble_eq_true rfl) rfl ?_
  unfold Sc_add
  refine s_aload_n (pc := 0) 0 dX6_add_0 rfl rfl ?_
  refine s_getI (pc := 1) dX6_add_1 (fi_X6_24 hG) kd_66 ?_
  refine s_if_lt (pc := 4) 68 dX6_add_4 rfl ?_ ?_
  · exact s_vret (pc := 68) dX6_add_68 rfl rfl
  · refine s_aload_n (pc := 7) 0 dX6_add_7 rfl rfl ?_
    refine s_getI (pc := 8) dX6_add_8 (fi_X6_24 hG) kd_66 ?_
    refine s_sipush (pc := 11) (v := 200) dX6_add_11 rfl ?_
    refine s_icmp_ge (pc := 14) 68 dX6_add_14 rfl ?_ ?_
    · exact s_vret (pc := 68) dX6_add_68 rfl rfl
    · refine s_aload_n (pc := 17) 0 dX6_add_17 rfl rfl ?_
      refine s_getR (pc := 18) 67 dX6_add_18 (fi_X6_11 hG) kd_66 rfl ?_
      refine s_aload_n (pc := 21) 0 dX6_add_21 rfl rfl ?_
      refine s_getI (pc := 22) dX6_add_22 (fi_X6_24 hG) kd_66 ?_
      refine s_iload_n (pc := 25) 1 dX6_add_25 rfl rfl ?_
      refine s_iast (pc := 26) 200 dX6_add_26 kd_67 ln_67 ?_
      refine s_letP (fun P26 => ?_)
      refine s_aload_n (pc := 27) 0 dX6_add_27 rfl rfl ?_
      refine s_getR (pc := 28) 68 dX6_add_28 (fi_X6_15 hG) kd_66 rfl ?_
      refine s_aload_n (pc := 31) 0 dX6_add_31 rfl rfl ?_
      refine s_getI (pc := 32) dX6_add_32 (fi_X6_24 hG) kd_66 ?_
      refine s_iload_n (pc := 35) 2 dX6_add_35 rfl rfl ?_
      refine s_iast (pc := 36) 200 dX6_add_36 kd_68 ln_68 ?_
      refine s_letP (fun P36 => ?_)
      refine s_aload_n (pc := 37) 0 dX6_add_37 rfl rfl ?_
      refine s_getR (pc := 38) 69 dX6_add_38 (fi_X6_18 hG) kd_66 rfl ?_
      refine s_aload_n (pc := 41) 0 dX6_add_41 rfl rfl ?_
      refine s_getI (pc := 42) dX6_add_42 (fi_X6_24 hG) kd_66 ?_
      refine s_iload_n (pc := 45) 3 dX6_add_45 rfl rfl ?_
      refine s_iast (pc := 46) 200 dX6_add_46 kd_69 ln_69 ?_
      refine s_letP (fun P46 => ?_)
      refine s_aload_n (pc := 47) 0 dX6_add_47 rfl rfl ?_
      refine s_getR (pc := 48) 70 dX6_add_48 (fi_X6_21 hG) kd_66 rfl ?_
      refine s_aload_n (pc := 51) 0 dX6_add_51 rfl rfl ?_
      refine s_getI (pc := 52) dX6_add_52 (fi_X6_24 hG) kd_66 ?_
      refine s_iload (pc := 55) 4 dX6_add_55 rfl ?_
      refine s_iast (pc := 57) 200 dX6_add_57 kd_70 ln_70 ?_
      refine s_letP (fun P57 => ?_)
      refine s_aload_n (pc := 58) 0 dX6_add_58 rfl rfl ?_
      refine s_dup (pc := 59) dX6_add_59 rfl ?_
      refine s_getI (pc := 60) dX6_add_60 (fi_X6_24 hG) kd_66 ?_
      refine s_iconst (pc := 63) (v := 1) dX6_add_63 rfl ?_
      refine s_iadd (pc := 64) dX6_add_64 ?_
      refine s_putI (pc := 65) dX6_add_65 (fp_X6_24 hG) kd_66 ?_
      refine s_letP (fun P65 => ?_)
      exact s_vret (pc := 68) dX6_add_68 rfl rfl
def Re_worded_105   (v1 : Int32) (v2 : Int32) (v3 : Int32) (v4 : Int32) (P : PH) : Option (PH) :=
  if (P.1 71 1) = 0 then
    (Sc_add v1 v3 v4 v2 P).bind fun (x121 : PH) =>
    some x121
  else
    some P
set_option maxRecDepth 100000 in
set_option maxHeartbeats 4000000 in
theorem Re_worded_105_sem {G : GT} {l : Launch} (hG : GOK G l)  (v1 : Int32) (v2 : Int32) (v3 : Int32) (v4 : Int32) (P : PH)   : Sem G l miX4_worded 0 0 (rn tVH) 105 [(0, .ref (gA G 71)), (1, .int v1), (2, .int v2), (3, .int v3), (4, .int v4)] [] P (Re_worded_105 v1 v2 v3 v4 P) := by
  unfold Re_worded_105
  refine s_aload_n (pc := 105) 0 dX4_worded_105 rfl rfl ?_
  refine s_getI (pc := 106) dX4_worded_106 (fi_X4_42 hG) kd_71 ?_
  refine s_if_ne (pc := 109) 124 dX4_worded_109 rfl ?_ ?_
  · refine s_aload_n (pc := 112) 0 dX4_worded_112 rfl rfl ?_
    refine s_getR (pc := 113) 66 dX4_worded_113 (fi_X4_19 hG) kd_71 rfl ?_
    refine s_iload_n (pc := 116) 1 dX4_worded_116 rfl rfl ?_
    refine s_iload_n (pc := 117) 3 dX4_worded_117 rfl rfl ?_
    refine s_iload (pc := 118) 4 dX4_worded_118 rfl ?_
    refine s_iload_n (pc := 120) 2 dX4_worded_120 rfl rfl ?_
    refine s_callV (k := 0) (n := 0) (pc := 121) [.int v1, .int v3, .int v4, .int v2] (fun _ => []) (fun x121 => x121) dX4_worded_121 (cV_X4_86 hG) (Nat.le_of_ble_eq_true rfl) rfl kd_66 (Sc_add_ok hG v1 v3 v4 v2 P) rfl (fun _ => rfl) (fun _ => rfl) (Nat.le_of_ble_eq_true rfl) rfl rfl (fun x121 => ?_)
    exact s_vret (pc := 124) dX4_worded_124 rfl rfl
  · exact s_vret (pc := 124) dX4_worded_124 rfl rfl
def Re_worded_92   (v1 : Int32) (v2 : Int32) (v3 : Int32) (v4 : Int32) (s0 : Int32) (P : PH) : Option (PH) :=
  (Re_sign s0 P).bind fun (x92 : PH) =>
  if v1 < (11 : Int32) then
    Re_worded_105 v1 v2 v3 v4 x92
  else
    (Re_openBlock x92).bind fun (x102 : PH) =>
    Re_worded_105 v1 v2 v3 v4 x102
set_option maxRecDepth 100000 in
set_option maxHeartbeats 4000000 in
theorem Re_worded_92_sem {G : GT} {l : Launch} (hG : GOK G l)  (v1 : Int32) (v2 : Int32) (v3 : Int32) (v4 : Int32) (s0 : Int32) (P : PH)   : Sem G l miX4_worded 0 0 (rn tVH) 92 [(0, .ref (gA G 71)), (1, .int v1), (2, .int v2), (3, .int v3), (4, .int v4)] [.int s0, .ref (gA G 71)] P (Re_worded_92 v1 v2 v3 v4 s0 P) := by
  unfold Re_worded_92
  refine s_callV (k := 0) (n := 0) (pc := 92) [.int s0] (fun _ => []) (fun x92 => x92) dX4_worded_92 (cV_X4_63 hG) (Nat.le_of_ble_eq_true rfl) rfl kd_71 (Re_sign_ok hG s0 P) rfl (fun _ => rfl) (fun _ => rfl) (Nat.le_of_ble_eq_true rfl) rfl rfl (fun x92 => ?_)
  refine s_iload_n (pc := 95) 1 dX4_worded_95 rfl rfl ?_
  refine s_bipush (pc := 96) (v := 11) dX4_worded_96 rfl ?_
  refine s_icmp_lt (pc := 98) 105 dX4_worded_98 rfl ?_ ?_
  · exact Re_worded_105_sem hG v1 v2 v3 v4 x92
  · refine s_aload_n (pc := 101) 0 dX4_worded_101 rfl rfl ?_
    refine s_callV (k := 0) (n := 0) (pc := 102) [] (fun _ => []) (fun x102 => x102) dX4_worded_102 (cV_X4_83 hG) (Nat.le_of_ble_eq_true rfl) rfl kd_71 (Re_openBlock_ok hG x92) rfl (fun _ => rfl) (fun _ => rfl) (Nat.le_of_ble_eq_true rfl) rfl rfl (fun x102 => ?_)
    exact Re_worded_105_sem hG v1 v2 v3 v4 x102
def Re_worded_78   (v1 : Int32) (v2 : Int32) (v3 : Int32) (v4 : Int32) (P : PH) : Option (PH) :=
  if (11 : Int32) ≤ v1 then
    Re_worded_92 v1 v2 v3 v4 (40 : Int32) P
  else
    Re_worded_92 v1 v2 v3 v4 (59 : Int32) P
set_option maxRecDepth 100000 in
set_option maxHeartbeats 4000000 in
theorem Re_worded_78_sem {G : GT} {l : Launch} (hG : GOK G l)  (v1 : Int32) (v2 : Int32) (v3 : Int32) (v4 : Int32) (P : PH)   : Sem G l miX4_worded 0 0 (rn tVH) 78 [(0, .ref (gA G 71)), (1, .int v1), (2, .int v2), (3, .int v3), (4, .int v4)] [] P (Re_worded_78 v1 v2 v3 v4 P) := by
  unfold Re_worded_78
  refine s_aload_n (pc := 78) 0 dX4_worded_78 rfl rfl ?_
  refine s_iload_n (pc := 79) 1 dX4_worded_79 rfl rfl ?_
  refine s_bipush (pc := 80) (v := 11) dX4_worded_80 rfl ?_
  refine s_icmp_ge (pc := 82) 90 dX4_worded_82 rfl ?_ ?_
  · refine s_bipush (pc := 90) (v := 40) dX4_worded_90 rfl ?_
    exact Re_worded_92_sem hG v1 v2 v3 v4 (40 : Int32) P
  · refine s_bipush (pc := 85) (v := 59) dX4_worded_85 rfl ?_
    refine s_goto (pc := 87) 92 dX4_worded_87 rfl ?_
    exact Re_worded_92_sem hG v1 v2 v3 v4 (59 : Int32) P
def Re_worded  (v1 : Int32) (v2 : Int32) (P : PH) : Option (PH) :=
  if (8 : Int32) ≤ v1 then
    if v1 = (9 : Int32) then
      (Re_number (0 : Int32) (3 : Int32) P).bind fun (x31 : Int32 × PH) =>
      Re_worded_78 v1 v2 x31.1 (0 : Int32) x31.2
    else
      if v1 = (11 : Int32) then
        (Re_number (1 : Int32) (12 : Int32) P).bind fun (x48 : Int32 × PH) =>
        Re_worded_78 v1 v2 x48.1 (0 : Int32) x48.2
      else
        if (11 : Int32) ≤ v1 then
          Re_worded_78 v1 v2 (1 : Int32) (0 : Int32) P
        else
          (Re_number (0 : Int32) (11 : Int32) P).bind fun (x65 : Int32 × PH) =>
          (Re_number (0 : Int32) (11 : Int32) x65.2).bind fun (x73 : Int32 × PH) =>
          Re_worded_78 v1 v2 x65.1 x73.1 x73.2
  else
    (Re_number (1 : Int32) (11 : Int32) P).bind fun (x15 : Int32 × PH) =>
    Re_worded_78 v1 v2 x15.1 (0 : Int32) x15.2
set_option maxRecDepth 100000 in
set_option maxHeartbeats 4000000 in
theorem Re_worded_ok {G : GT} {l : Launch} (hG : GOK G l)  (v1 : Int32) (v2 : Int32) (P : PH) : OkN G l yX4_worded miX4_worded 0 0 tVH [.ref (gA G 71), .int v1, .int v2] P (Re_worded v1 v2 P) := by
  refine okN_of hG _ [(0, .ref (gA G 71)), (1, .int v1), (2, .int v2)] rfl rfl rfl (Nat.le_of_ble_eq_true rfl) rfl ?_
  unfold Re_worded
  refine s_iconst (pc := 0) (v := 1) dX4_worded_0 rfl ?_
  refine s_istore_n (pc := 1) [(3, .int ((1 : Int32))), (0, .ref (gA G 71)), (1, .int v1), (2, .int v2)] dX4_worded_1 rfl (Nat.le_of_ble_eq_true rfl) rfl ?_
  refine s_iconst (pc := 2) (v := 0) dX4_worded_2 rfl ?_
  refine s_istore (pc := 3) [(4, .int ((0 : Int32))), (3, .int ((1 : Int32))), (0, .ref (gA G 71)), (1, .int v1), (2, .int v2)] dX4_worded_3 (Nat.le_of_ble_eq_true rfl) rfl ?_
  refine s_iload_n (pc := 5) 3 dX4_worded_5 rfl rfl ?_
  refine s_bipush (pc := 6) (v := 8) dX4_worded_6 rfl ?_
  refine s_icmp_ge (pc := 8) 22 dX4_worded_8 rfl ?_ ?_
  · refine s_iload_n (pc := 22) 3 dX4_worded_22 rfl rfl ?_
    refine s_bipush (pc := 23) (v := 9) dX4_worded_23 rfl ?_
    refine s_icmp_ne (pc := 25) 38 dX4_worded_25 rfl ?_ ?_
    · refine s_aload_n (pc := 28) 2 dX4_worded_28 rfl rfl ?_
      refine s_iconst (pc := 29) (v := 0) dX4_worded_29 rfl ?_
      refine s_iconst (pc := 30) (v := 3) dX4_worded_30 rfl ?_
      refine s_callV (k := 0) (n := 0) (pc := 31) [.int ((0 : Int32)), .int ((3 : Int32))] (fun x31 => .int (x31.1) :: []) (fun x31 => x31.2) dX4_worded_31 (cV_X4_80 hG) (Nat.le_of_ble_eq_true rfl) rfl kd_71 (Re_number_ok hG (0 : Int32) (3 : Int32) P) rfl (fun _ => rfl) (fun _ => rfl) (Nat.le_of_ble_eq_true rfl) rfl rfl (fun x31 => ?_)
      refine s_istore_n (pc := 34) [(3, .int (x31.1)), (4, .int ((0 : Int32))), (0, .ref (gA G 71)), (1, .int v1), (2, .int v2)] dX4_worded_34 rfl (Nat.le_of_ble_eq_true rfl) rfl ?_
      refine s_goto (pc := 35) 78 dX4_worded_35 rfl ?_
      refine s_sub [2, 3, 4, 0, 1] rfl ?_
      exact Re_worded_78_sem hG v1 v2 x31.1 (0 : Int32) x31.2
    · refine s_iload_n (pc := 38) 3 dX4_worded_38 rfl rfl ?_
      refine s_bipush (pc := 39) (v := 11) dX4_worded_39 rfl ?_
      refine s_icmp_ne (pc := 41) 55 dX4_worded_41 rfl ?_ ?_
      · refine s_aload_n (pc := 44) 2 dX4_worded_44 rfl rfl ?_
        refine s_iconst (pc := 45) (v := 1) dX4_worded_45 rfl ?_
        refine s_bipush (pc := 46) (v := 12) dX4_worded_46 rfl ?_
        refine s_callV (k := 0) (n := 0) (pc := 48) [.int ((1 : Int32)), .int ((12 : Int32))] (fun x48 => .int (x48.1) :: []) (fun x48 => x48.2) dX4_worded_48 (cV_X4_80 hG) (Nat.le_of_ble_eq_true rfl) rfl kd_71 (Re_number_ok hG (1 : Int32) (12 : Int32) P) rfl (fun _ => rfl) (fun _ => rfl) (Nat.le_of_ble_eq_true rfl) rfl rfl (fun x48 => ?_)
        refine s_istore_n (pc := 51) [(3, .int (x48.1)), (4, .int ((0 : Int32))), (0, .ref (gA G 71)), (1, .int v1), (2, .int v2)] dX4_worded_51 rfl (Nat.le_of_ble_eq_true rfl) rfl ?_
        refine s_goto (pc := 52) 78 dX4_worded_52 rfl ?_
        refine s_sub [2, 3, 4, 0, 1] rfl ?_
        exact Re_worded_78_sem hG v1 v2 x48.1 (0 : Int32) x48.2
      · refine s_iload_n (pc := 55) 3 dX4_worded_55 rfl rfl ?_
        refine s_bipush (pc := 56) (v := 11) dX4_worded_56 rfl ?_
        refine s_icmp_ge (pc := 58) 78 dX4_worded_58 rfl ?_ ?_
        · refine s_sub [2, 3, 4, 1, 0] rfl ?_
          exact Re_worded_78_sem hG v1 v2 (1 : Int32) (0 : Int32) P
        · refine s_aload_n (pc := 61) 2 dX4_worded_61 rfl rfl ?_
          refine s_iconst (pc := 62) (v := 0) dX4_worded_62 rfl ?_
          refine s_bipush (pc := 63) (v := 11) dX4_worded_63 rfl ?_
          refine s_callV (k := 0) (n := 0) (pc := 65) [.int ((0 : Int32)), .int ((11 : Int32))] (fun x65 => .int (x65.1) :: []) (fun x65 => x65.2) dX4_worded_65 (cV_X4_80 hG) (Nat.le_of_ble_eq_true rfl) rfl kd_71 (Re_number_ok hG (0 : Int32) (11 : Int32) P) rfl (fun _ => rfl) (fun _ => rfl) (Nat.le_of_ble_eq_true rfl) rfl rfl (fun x65 => ?_)
          refine s_istore_n (pc := 68) [(3, .int (x65.1)), (4, .int ((0 : Int32))), (0, .ref (gA G 71)), (1, .int v1), (2, .int v2)] dX4_worded_68 rfl (Nat.le_of_ble_eq_true rfl) rfl ?_
          refine s_aload_n (pc := 69) 2 dX4_worded_69 rfl rfl ?_
          refine s_iconst (pc := 70) (v := 0) dX4_worded_70 rfl ?_
          refine s_bipush (pc := 71) (v := 11) dX4_worded_71 rfl ?_
          refine s_callV (k := 0) (n := 0) (pc := 73) [.int ((0 : Int32)), .int ((11 : Int32))] (fun x73 => .int (x73.1) :: []) (fun x73 => x73.2) dX4_worded_73 (cV_X4_80 hG) (Nat.le_of_ble_eq_true rfl) rfl kd_71 (Re_number_ok hG (0 : Int32) (11 : Int32) x65.2) rfl (fun _ => rfl) (fun _ => rfl) (Nat.le_of_ble_eq_true rfl) rfl rfl (fun x73 => ?_)
          refine s_istore (pc := 76) [(4, .int (x73.1)), (3, .int (x65.1)), (0, .ref (gA G 71)), (1, .int v1), (2, .int v2)] dX4_worded_76 (Nat.le_of_ble_eq_true rfl) rfl ?_
          refine s_sub [2, 3, 4, 1, 0] rfl ?_
          exact Re_worded_78_sem hG v1 v2 x65.1 x73.1 x73.2
  · refine s_aload_n (pc := 11) 2 dX4_worded_11 rfl rfl ?_
    refine s_iconst (pc := 12) (v := 1) dX4_worded_12 rfl ?_
    refine s_bipush (pc := 13) (v := 11) dX4_worded_13 rfl ?_
    refine s_callV (k := 0) (n := 0) (pc := 15) [.int ((1 : Int32)), .int ((11 : Int32))] (fun x15 => .int (x15.1) :: []) (fun x15 => x15.2) dX4_worded_15 (cV_X4_80 hG) (Nat.le_of_ble_eq_true rfl) rfl kd_71 (Re_number_ok hG (1 : Int32) (11 : Int32) P) rfl (fun _ => rfl) (fun _ => rfl) (Nat.le_of_ble_eq_true rfl) rfl rfl (fun x15 => ?_)
    refine s_istore_n (pc := 18) [(3, .int (x15.1)), (4, .int ((0 : Int32))), (0, .ref (gA G 71)), (1, .int v1), (2, .int v2)] dX4_worded_18 rfl (Nat.le_of_ble_eq_true rfl) rfl ?_
    refine s_goto (pc := 19) 78 dX4_worded_19 rfl ?_
    refine s_sub [2, 3, 4, 0, 1] rfl ?_
    exact Re_worded_78_sem hG v1 v2 x15.1 (0 : Int32) x15.2
def Sc_clear   (P : PH) : Option (PH) :=
  (some (sI P 66 0 (0 : Int32))).bind fun (P2 : PH) =>
  some P2
set_option maxRecDepth 100000 in
set_option maxHeartbeats 4000000 in
theorem Sc_clear_ok {G : GT} {l : Launch} (hG : GOK G l)   (P : PH) : OkN G l yX6_clear miX6_clear 0 0 tVH [.ref (gA G 66)] P (Sc_clear P) := by
  refine okN_of hG _ [(0, .ref (gA G 66))] rfl rfl rfl (Nat.le_of_ble_eq_true rfl) rfl ?_
  unfold Sc_clear
  refine s_aload_n (pc := 0) 0 dX6_clear_0 rfl rfl ?_
  refine s_iconst (pc := 1) (v := 0) dX6_clear_1 rfl ?_
  refine s_putI (pc := 2) dX6_clear_2 (fp_X6_24 hG) kd_66 ?_
  refine s_letP (fun P2 => ?_)
  exact s_vret (pc := 5) dX6_clear_5 rfl rfl
def Re_read_127  (r47 : Int32 → PH → Option (PH)) (v2 : Int32) (v3 : Int32) (P : PH) : Option (PH) :=
  if v3 = (-1 : Int32) then
    (Re_fail (2 : Int32) P).bind fun (x146 : PH) =>
    r47 (v2 + 1) x146
  else
    (Re_worded v3 (P.1 71 8) P).bind fun (x138 : PH) =>
    r47 (v2 + 1) x138
set_option maxRecDepth 100000 in
set_option maxHeartbeats 4000000 in
theorem Re_read_127_sem {G : GT} {l : Launch} (hG : GOK G l)  (v2 : Int32) (v3 : Int32) (P : PH)  (r47 : Int32 → PH → Option (PH)) (hr47 : ∀ (v2 : Int32) (P : PH), Sem G l miX4_read 0 0 (rn tVH) 47 [(0, .ref (gA G 71)), (2, .int v2)] [] P (r47 v2 P)) : Sem G l miX4_read 0 0 (rn tVH) 127 [(0, .ref (gA G 71)), (2, .int v2), (3, .int v3)] [] P (Re_read_127 r47 v2 v3 P) := by
  unfold Re_read_127
  refine s_iload_n (pc := 127) 2 dX4_read_127 rfl rfl ?_
  refine s_iconst (pc := 128) (v := -1) dX4_read_128 rfl ?_
  refine s_icmp_eq (pc := 129) 144 dX4_read_129 rfl ?_ ?_
  · refine s_aload_n (pc := 144) 0 dX4_read_144 rfl rfl ?_
    refine s_iconst (pc := 145) (v := 2) dX4_read_145 rfl ?_
    refine s_callV (k := 0) (n := 0) (pc := 146) [.int ((2 : Int32))] (fun _ => []) (fun x146 => x146) dX4_read_146 (cV_X4_77 hG) (Nat.le_of_ble_eq_true rfl) rfl kd_71 (Re_fail_ok hG (2 : Int32) P) rfl (fun _ => rfl) (fun _ => rfl) (Nat.le_of_ble_eq_true rfl) rfl rfl (fun x146 => ?_)
    refine s_iinc (pc := 149) 1 1 [(2, .int (v2 + 1)), (0, .ref (gA G 71)), (3, .int v3)] dX4_read_149 rfl rfl (Nat.le_of_ble_eq_true rfl) rfl ?_
    refine s_goto (pc := 152) 47 dX4_read_152 rfl ?_
    refine s_sub [1, 0] rfl ?_
    exact hr47 (v2 + 1) x146
  · refine s_aload_n (pc := 132) 0 dX4_read_132 rfl rfl ?_
    refine s_iload_n (pc := 133) 2 dX4_read_133 rfl rfl ?_
    refine s_aload_n (pc := 134) 0 dX4_read_134 rfl rfl ?_
    refine s_getI (pc := 135) dX4_read_135 (fi_X4_70 hG) kd_71 ?_
    refine s_callV (k := 0) (n := 0) (pc := 138) [.int v3, .int (P.1 71 8)] (fun _ => []) (fun x138 => x138) dX4_read_138 (cV_X4_73 hG) (Nat.le_of_ble_eq_true rfl) rfl kd_71 (Re_worded_ok hG v3 (P.1 71 8) P) rfl (fun _ => rfl) (fun _ => rfl) (Nat.le_of_ble_eq_true rfl) rfl rfl (fun x138 => ?_)
    refine s_goto (pc := 141) 149 dX4_read_141 rfl ?_
    refine s_iinc (pc := 149) 1 1 [(2, .int (v2 + 1)), (0, .ref (gA G 71)), (3, .int v3)] dX4_read_149 rfl rfl (Nat.le_of_ble_eq_true rfl) rfl ?_
    refine s_goto (pc := 152) 47 dX4_read_152 rfl ?_
    refine s_sub [1, 0] rfl ?_
    exact hr47 (v2 + 1) x138
def Re_read_97  (r47 : Int32 → PH → Option (PH)) (v2 : Int32) (s0 : Int32) (P : PH) : Option (PH) :=
  if (P.1 71 7) = (41 : Int32) then
    if (P.1 71 10) ≤ 0 then
      Re_read_127 r47 v2 s0 P
    else
      (Re_sign (59 : Int32) P).bind fun (x117 : PH) =>
      (Re_closeBlock x117).bind fun (x121 : PH) =>
      r47 (v2 + 1) x121
  else
    Re_read_127 r47 v2 s0 P
set_option maxRecDepth 100000 in
set_option maxHeartbeats 4000000 in
theorem Re_read_97_sem {G : GT} {l : Launch} (hG : GOK G l)  (v2 : Int32) (s0 : Int32) (P : PH)  (r47 : Int32 → PH → Option (PH)) (hr47 : ∀ (v2 : Int32) (P : PH), Sem G l miX4_read 0 0 (rn tVH) 47 [(0, .ref (gA G 71)), (2, .int v2)] [] P (r47 v2 P)) : Sem G l miX4_read 0 0 (rn tVH) 97 [(0, .ref (gA G 71)), (2, .int v2)] [.int s0] P (Re_read_97 r47 v2 s0 P) := by
  unfold Re_read_97
  refine s_istore_n (pc := 97) [(3, .int s0), (0, .ref (gA G 71)), (2, .int v2)] dX4_read_97 rfl (Nat.le_of_ble_eq_true rfl) rfl ?_
  refine s_aload_n (pc := 98) 1 dX4_read_98 rfl rfl ?_
  refine s_getI (pc := 99) dX4_read_99 (fi_X4_56 hG) kd_71 ?_
  refine s_bipush (pc := 102) (v := 41) dX4_read_102 rfl ?_
  refine s_icmp_ne (pc := 104) 127 dX4_read_104 rfl ?_ ?_
  · refine s_aload_n (pc := 107) 1 dX4_read_107 rfl rfl ?_
    refine s_getI (pc := 108) dX4_read_108 (fi_X4_39 hG) kd_71 ?_
    refine s_if_le (pc := 111) 127 dX4_read_111 rfl ?_ ?_
    · refine s_sub [1, 2, 0] rfl ?_
      exact Re_read_127_sem hG v2 s0 P r47 hr47
    · refine s_aload_n (pc := 114) 1 dX4_read_114 rfl rfl ?_
      refine s_bipush (pc := 115) (v := 59) dX4_read_115 rfl ?_
      refine s_callV (k := 0) (n := 0) (pc := 117) [.int ((59 : Int32))] (fun _ => []) (fun x117 => x117) dX4_read_117 (cV_X4_63 hG) (Nat.le_of_ble_eq_true rfl) rfl kd_71 (Re_sign_ok hG (59 : Int32) P) rfl (fun _ => rfl) (fun _ => rfl) (Nat.le_of_ble_eq_true rfl) rfl rfl (fun x117 => ?_)
      refine s_aload_n (pc := 120) 1 dX4_read_120 rfl rfl ?_
      refine s_callV (k := 0) (n := 0) (pc := 121) [] (fun _ => []) (fun x121 => x121) dX4_read_121 (cV_X4_67 hG) (Nat.le_of_ble_eq_true rfl) rfl kd_71 (Re_closeBlock_ok hG x117) rfl (fun _ => rfl) (fun _ => rfl) (Nat.le_of_ble_eq_true rfl) rfl rfl (fun x121 => ?_)
      refine s_goto (pc := 124) 149 dX4_read_124 rfl ?_
      refine s_iinc (pc := 149) 2 1 [(2, .int (v2 + 1)), (3, .int s0), (0, .ref (gA G 71))] dX4_read_149 rfl rfl (Nat.le_of_ble_eq_true rfl) rfl ?_
      refine s_goto (pc := 152) 47 dX4_read_152 rfl ?_
      refine s_sub [2, 0] rfl ?_
      exact hr47 (v2 + 1) x121
  · refine s_sub [1, 2, 0] rfl ?_
    exact Re_read_127_sem hG v2 s0 P r47 hr47
def Re_read_81  (r47 : Int32 → PH → Option (PH)) (v2 : Int32) (P : PH) : Option (PH) :=
  if (P.1 71 7) = (1 : Int32) then
    (Re_wordTold P).bind fun (x90 : Int32) =>
    Re_read_97 r47 v2 x90 P
  else
    Re_read_97 r47 v2 (-1 : Int32) P
set_option maxRecDepth 100000 in
set_option maxHeartbeats 4000000 in
theorem Re_read_81_sem {G : GT} {l : Launch} (hG : GOK G l)  (v2 : Int32) (P : PH)  (r47 : Int32 → PH → Option (PH)) (hr47 : ∀ (v2 : Int32) (P : PH), Sem G l miX4_read 0 0 (rn tVH) 47 [(0, .ref (gA G 71)), (2, .int v2)] [] P (r47 v2 P)) : Sem G l miX4_read 0 0 (rn tVH) 81 [(0, .ref (gA G 71)), (2, .int v2)] [] P (Re_read_81 r47 v2 P) := by
  unfold Re_read_81
  refine s_aload_n (pc := 81) 0 dX4_read_81 rfl rfl ?_
  refine s_getI (pc := 82) dX4_read_82 (fi_X4_56 hG) kd_71 ?_
  refine s_iconst (pc := 85) (v := 1) dX4_read_85 rfl ?_
  refine s_icmp_ne (pc := 86) 96 dX4_read_86 rfl ?_ ?_
  · refine s_aload_n (pc := 89) 0 dX4_read_89 rfl rfl ?_
    refine s_callV (k := 0) (n := 0) (pc := 90) [] (fun x90 => .int x90 :: []) (fun _ => P) dX4_read_90 (cV_X4_59 hG) (Nat.le_of_ble_eq_true rfl) rfl kd_71 (Re_wordTold_ok hG P) rfl (fun _ => rfl) (fun _ => rfl) (Nat.le_of_ble_eq_true rfl) rfl rfl (fun x90 => ?_)
    refine s_goto (pc := 93) 97 dX4_read_93 rfl ?_
    exact Re_read_97_sem hG v2 x90 P r47 hr47
  · refine s_iconst (pc := 96) (v := -1) dX4_read_96 rfl ?_
    exact Re_read_97_sem hG v2 (-1 : Int32) P r47 hr47
def Re_read_47     : Nat → Int32 → PH → Option (PH)
  | 0 => fun _ _ => none
  | n + 1 => fun v2 P =>
    if (P.1 71 5) < v2 then
      some P
    else
      if (P.1 71 1) = 0 then
        (Re_token P).bind fun (x63 : PH) =>
        if (x63.1 71 7) = 0 then
          if (x63.1 71 10) = 0 then
            some x63
          else
            Re_read_81 (Re_read_47  n) v2 x63
        else
          Re_read_81 (Re_read_47  n) v2 x63
      else
        some P
set_option maxRecDepth 100000 in
set_option maxHeartbeats 4000000 in
theorem Re_read_47_sem {G : GT} {l : Launch} (hG : GOK G l)      : ∀ (n : Nat) (v2 : Int32) (P : PH), Sem G l miX4_read 0 0 (rn tVH) 47 [(0, .ref (gA G 71)), (2, .int v2)] [] P (Re_read_47  n v2 P) := by
  intro n
  induction n with
  | zero => intro v2 P; exact s_none rfl
  | succ n ih =>
    intro v2 P
    rw [Re_read_47]
    refine s_iload_n (pc := 47) 1 dX4_read_47 rfl rfl ?_
    refine s_aload_n (pc := 48) 0 dX4_read_48 rfl rfl ?_
    refine s_getI (pc := 49) dX4_read_49 (fi_X4_33 hG) kd_71 ?_
    refine s_icmp_gt (pc := 52) 155 dX4_read_52 rfl ?_ ?_
    · exact s_vret (pc := 155) dX4_read_155 rfl rfl
    · refine s_aload_n (pc := 55) 0 dX4_read_55 rfl rfl ?_
      refine s_getI (pc := 56) dX4_read_56 (fi_X4_42 hG) kd_71 ?_
      refine s_if_ne (pc := 59) 155 dX4_read_59 rfl ?_ ?_
      · refine s_aload_n (pc := 62) 0 dX4_read_62 rfl rfl ?_
        refine s_callV (k := 0) (n := 0) (pc := 63) [] (fun _ => []) (fun x63 => x63) dX4_read_63 (cV_X4_53 hG) (Nat.le_of_ble_eq_true rfl) rfl kd_71 (Re_token_ok hG P) rfl (fun _ => rfl) (fun _ => rfl) (Nat.le_of_ble_eq_true rfl) rfl rfl (fun x63 => ?_)
        refine s_aload_n (pc := 66) 0 dX4_read_66 rfl rfl ?_
        refine s_getI (pc := 67) dX4_read_67 (fi_X4_56 hG) kd_71 ?_
        refine s_if_ne (pc := 70) 81 dX4_read_70 rfl ?_ ?_
        · refine s_aload_n (pc := 73) 0 dX4_read_73 rfl rfl ?_
          refine s_getI (pc := 74) dX4_read_74 (fi_X4_39 hG) kd_71 ?_
          refine s_if_ne (pc := 77) 81 dX4_read_77 rfl ?_ ?_
          · exact s_vret (pc := 80) dX4_read_80 rfl rfl
          · exact Re_read_81_sem hG v2 x63 (Re_read_47  n) ih
        · exact Re_read_81_sem hG v2 x63 (Re_read_47  n) ih
      · exact s_vret (pc := 155) dX4_read_155 rfl rfl
def Re_read  (v1 : Int32) (P : PH) : Option (PH) :=
  (some (sI P 71 0 (0 : Int32))).bind fun (P2 : PH) =>
  (some (sI P2 71 5 (jMin v1 (700 : Int32)))).bind fun (P15 : PH) =>
  (some (sI P15 71 6 (0 : Int32))).bind fun (P20 : PH) =>
  (some (sI P20 71 10 (0 : Int32))).bind fun (P25 : PH) =>
  (some (sI P25 71 1 (0 : Int32))).bind fun (P30 : PH) =>
  (some (sI P30 71 2 (-1 : Int32))).bind fun (P35 : PH) =>
  (Sc_clear P35).bind fun (x42 : PH) =>
  Re_read_47  bigN (0 : Int32) x42
set_option maxRecDepth 100000 in
set_option maxHeartbeats 4000000 in
theorem Re_read_ok {G : GT} {l : Launch} (hG : GOK G l)  (v1 : Int32) (P : PH) : OkN G l yX4_read miX4_read 0 0 tVH [.ref (gA G 71), .int v1] P (Re_read v1 P) := by
  refine okN_of hG _ [(0, .ref (gA G 71)), (1, .int v1)] rfl rfl rfl (Nat.le_of_ble_eq_true rfl) rfl ?_
  unfold Re_read
  refine s_aload_n (pc := 0) 0 dX4_read_0 rfl rfl ?_
  refine s_iconst (pc := 1) (v := 0) dX4_read_1 rfl ?_
  refine s_putI (pc := 2) dX4_read_2 (fp_X4_23 hG) kd_71 ?_
  refine s_letP (fun P2 => ?_)
  refine s_aload_n (pc := 5) 0 dX4_read_5 rfl rfl ?_
  refine s_iload_n (pc := 6) 1 dX4_read_6 rfl rfl ?_
  refine s_aload_n (pc := 7) 0 dX4_read_7 rfl rfl ?_
  refine s_getR (pc := 8) 72 dX4_read_8 (fi_X4_9 hG) kd_71 rfl ?_
  refine s_alen (pc := 11) (t := 0) 700 700 dX4_read_11 kd_72 (Nat.le_of_ble_eq_true rfl) ln_72 rfl ?_
  refine s_mmin (pc := 12) dX4_read_12 (mk_X4_27 hG) (Nat.le_of_ble_eq_true rfl) (Nat.le_of_ble_eq_true rfl) ?_
  refine s_putI (pc := 15) dX4_read_15 (fp_X4_33 hG) kd_71 ?_
  refine s_letP (fun P15 => ?_)
  refine s_aload_n (pc := 18) 0 dX4_read_18 rfl rfl ?_
  refine s_iconst (pc := 19) (v := 0) dX4_read_19 rfl ?_
  refine s_putI (pc := 20) dX4_read_20 (fp_X4_36 hG) kd_71 ?_
  refine s_letP (fun P20 => ?_)
  refine s_aload_n (pc := 23) 0 dX4_read_23 rfl rfl ?_
  refine s_iconst (pc := 24) (v := 0) dX4_read_24 rfl ?_
  refine s_putI (pc := 25) dX4_read_25 (fp_X4_39 hG) kd_71 ?_
  refine s_letP (fun P25 => ?_)
  refine s_aload_n (pc := 28) 0 dX4_read_28 rfl rfl ?_
  refine s_iconst (pc := 29) (v := 0) dX4_read_29 rfl ?_
  refine s_putI (pc := 30) dX4_read_30 (fp_X4_42 hG) kd_71 ?_
  refine s_letP (fun P30 => ?_)
  refine s_aload_n (pc := 33) 0 dX4_read_33 rfl rfl ?_
  refine s_iconst (pc := 34) (v := -1) dX4_read_34 rfl ?_
  refine s_putI (pc := 35) dX4_read_35 (fp_X4_45 hG) kd_71 ?_
  refine s_letP (fun P35 => ?_)
  refine s_aload_n (pc := 38) 0 dX4_read_38 rfl rfl ?_
  refine s_getR (pc := 39) 66 dX4_read_39 (fi_X4_19 hG) kd_71 rfl ?_
  refine s_callV (k := 0) (n := 0) (pc := 42) [] (fun _ => []) (fun x42 => x42) dX4_read_42 (cV_X4_48 hG) (Nat.le_of_ble_eq_true rfl) rfl kd_66 (Sc_clear_ok hG P35) rfl (fun _ => rfl) (fun _ => rfl) (Nat.le_of_ble_eq_true rfl) rfl rfl (fun x42 => ?_)
  refine s_iconst (pc := 45) (v := 0) dX4_read_45 rfl ?_
  refine s_istore_n (pc := 46) [(2, .int ((0 : Int32))), (0, .ref (gA G 71)), (1, .int v1)] dX4_read_46 rfl (Nat.le_of_ble_eq_true rfl) rfl ?_
  refine s_sub [1, 0] rfl ?_
  exact Re_read_47_sem hG  bigN (0 : Int32) x42
def Rs_put  (v1 : Int64) (v3 : Int64) (v5 : Int32) (v6 : Int32) (P : PH) : Option (PH) :=
  (some (sL P 75 4 v1)).bind fun (P2 : PH) =>
  (some (sL P2 75 5 v3)).bind fun (P7 : PH) =>
  (some (sI P7 75 6 v5)).bind fun (P13 : PH) =>
  gdP (v6 = 0 ∨ v6 = 1) <|
  (some (sI P13 75 7 v6)).bind fun (P19 : PH) =>
  some P19
set_option maxRecDepth 100000 in
set_option maxHeartbeats 4000000 in
theorem Rs_put_ok {G : GT} {l : Launch} (hG : GOK G l)  (v1 : Int64) (v3 : Int64) (v5 : Int32) (v6 : Int32) (P : PH) : OkN G l yX5_put miX5_put 0 0 tVH [.ref (gA G 75), .long v1, .long v3, .int v5, .int v6] P (Rs_put v1 v3 v5 v6 P) := by
  refine okN_of hG _ [(0, .ref (gA G 75)), (1, .long v1), (3, .long v3), (5, .int v5), (6, .int v6)] rfl rfl rfl (Nat.le_of_ble_eq_true rfl) rfl ?_
  unfold Rs_put
  refine s_aload_n (pc := 0) 0 dX5_put_0 rfl rfl ?_
  refine s_lload_n (pc := 1) 1 dX5_put_1 rfl rfl ?_
  refine s_putL (pc := 2) dX5_put_2 (fp_X5_43 hG) kd_75 ?_
  refine s_letP (fun P2 => ?_)
  refine s_aload_n (pc := 5) 0 dX5_put_5 rfl rfl ?_
  refine s_lload_n (pc := 6) 2 dX5_put_6 rfl rfl ?_
  refine s_putL (pc := 7) dX5_put_7 (fp_X5_47 hG) kd_75 ?_
  refine s_letP (fun P7 => ?_)
  refine s_aload_n (pc := 10) 0 dX5_put_10 rfl rfl ?_
  refine s_iload (pc := 11) 3 dX5_put_11 rfl ?_
  refine s_putI (pc := 13) dX5_put_13 (fp_X5_50 hG) kd_75 ?_
  refine s_letP (fun P13 => ?_)
  refine s_aload_n (pc := 16) 0 dX5_put_16 rfl rfl ?_
  refine s_iload (pc := 17) 4 dX5_put_17 rfl ?_
  refine s_putZ (pc := 19) dX5_put_19 (fp_X5_51 hG) kd_75 ?_
  refine s_letP (fun P19 => ?_)
  exact s_vret (pc := 22) dX5_put_22 rfl rfl
def Rs_behind  (v1 : Nat) (P : PH) : Option (PH) :=
  (Ne_openOver v1 (P.1 v1 3) P).bind fun (x6 : Int64) =>
  (Ne_openUnder v1 (P.1 v1 3) P).bind fun (x14 : Int64) =>
  (Ne_nextOver v1 P).bind fun (x22 : Int32) =>
  (Rs_put x6 x14 (P.1 v1 5) x22 P).bind fun (x25 : PH) =>
  some x25
set_option maxRecDepth 100000 in
set_option maxHeartbeats 4000000 in
theorem Rs_behind_ok {G : GT} {l : Launch} (hG : GOK G l)  (v1 : Nat) (hv1 : kd v1 = 2) (P : PH) : OkN G l yX5_behind miX5_behind 0 0 tVH [.ref (gA G 75), .ref (gA G v1)] P (Rs_behind v1 P) := by
  refine okN_of hG _ [(0, .ref (gA G 75)), (1, .ref (gA G v1))] rfl rfl rfl (Nat.le_of_ble_eq_true rfl) rfl ?_
  unfold Rs_behind
  refine s_aload_n (pc := 0) 0 dX5_behind_0 rfl rfl ?_
  refine s_aload_n (pc := 1) 1 dX5_behind_1 rfl rfl ?_
  refine s_aload_n (pc := 2) 1 dX5_behind_2 rfl rfl ?_
  refine s_getI (pc := 3) dX5_behind_3 (fi_X5_19 hG) hv1 ?_
  refine s_callV (k := 0) (n := 0) (pc := 6) [.int (P.1 v1 3)] (fun x6 => .long x6 :: [.ref (gA G 75)]) (fun _ => P) dX5_behind_6 (cV_X5_25 hG) (Nat.le_of_ble_eq_true rfl) rfl hv1 (Ne_openOver_ok hG v1 hv1 (P.1 v1 3) P) rfl (fun _ => rfl) (fun _ => rfl) (Nat.le_of_ble_eq_true rfl) rfl rfl (fun x6 => ?_)
  refine s_aload_n (pc := 9) 1 dX5_behind_9 rfl rfl ?_
  refine s_aload_n (pc := 10) 1 dX5_behind_10 rfl rfl ?_
  refine s_getI (pc := 11) dX5_behind_11 (fi_X5_19 hG) hv1 ?_
  refine s_callV (k := 0) (n := 0) (pc := 14) [.int (P.1 v1 3)] (fun x14 => .long x14 :: [.long x6, .ref (gA G 75)]) (fun _ => P) dX5_behind_14 (cV_X5_29 hG) (Nat.le_of_ble_eq_true rfl) rfl hv1 (Ne_openUnder_ok hG v1 hv1 (P.1 v1 3) P) rfl (fun _ => rfl) (fun _ => rfl) (Nat.le_of_ble_eq_true rfl) rfl rfl (fun x14 => ?_)
  refine s_aload_n (pc := 17) 1 dX5_behind_17 rfl rfl ?_
  refine s_getI (pc := 18) dX5_behind_18 (fi_X5_32 hG) hv1 ?_
  refine s_aload_n (pc := 21) 1 dX5_behind_21 rfl rfl ?_
  refine s_callV (k := 0) (n := 0) (pc := 22) [] (fun x22 => .int x22 :: [.int (P.1 v1 5), .long x14, .long x6, .ref (gA G 75)]) (fun _ => P) dX5_behind_22 (cV_X5_35 hG) (Nat.le_of_ble_eq_true rfl) rfl hv1 (Ne_nextOver_ok hG v1 hv1 P) rfl (fun _ => rfl) (fun _ => rfl) (Nat.le_of_ble_eq_true rfl) rfl rfl (fun x22 => ?_)
  refine s_callV (k := 0) (n := 0) (pc := 25) [.long x6, .long x14, .int (P.1 v1 5), .int x22] (fun _ => []) (fun x25 => x25) dX5_behind_25 (cV_X5_39 hG) (Nat.le_of_ble_eq_true rfl) rfl kd_75 (Rs_put_ok hG x6 x14 (P.1 v1 5) x22 P) rfl (fun _ => rfl) (fun _ => rfl) (Nat.le_of_ble_eq_true rfl) rfl rfl (fun x25 => ?_)
  exact s_vret (pc := 28) dX5_behind_28 rfl rfl
def Rs_many   (P : PH) : Option (Int32) :=
  (Jl_bitCount (P.2 75 4) P).bind fun (x4 : Int32) =>
  (Jl_bitCount (P.2 75 5) P).bind fun (x11 : Int32) =>
  some (x4 + x11)
set_option maxRecDepth 100000 in
set_option maxHeartbeats 4000000 in
theorem Rs_many_ok {G : GT} {l : Launch} (hG : GOK G l)   (P : PH) : OkN G l yX5_many miX5_many 0 0 (tI P) [.ref (gA G 75)] P (Rs_many P) := by
  refine okN_of hG _ [(0, .ref (gA G 75))] rfl rfl rfl (Nat.le_of_ble_eq_true rfl) rfl ?_
  unfold Rs_many
  refine s_aload_n (pc := 0) 0 dX5_many_0 rfl rfl ?_
  refine s_getL (pc := 1) dX5_many_1 (fi_X5_43 hG) kd_75 ?_
  refine s_callS (k := 0) (n := 0) (pc := 4) [.long (P.2 75 4)] (fun x4 => .int x4 :: []) (fun _ => P) dX5_many_4 (cS_X5_54 hG) (Nat.le_of_ble_eq_true rfl) rfl (Jl_bitCount_ok hG (P.2 75 4) P) rfl (fun _ => rfl) (fun _ => rfl) (Nat.le_of_ble_eq_true rfl) rfl rfl (fun x4 => ?_)
  refine s_aload_n (pc := 7) 0 dX5_many_7 rfl rfl ?_
  refine s_getL (pc := 8) dX5_many_8 (fi_X5_47 hG) kd_75 ?_
  refine s_callS (k := 0) (n := 0) (pc := 11) [.long (P.2 75 5)] (fun x11 => .int x11 :: [.int x4]) (fun _ => P) dX5_many_11 (cS_X5_54 hG) (Nat.le_of_ble_eq_true rfl) rfl (Jl_bitCount_ok hG (P.2 75 5) P) rfl (fun _ => rfl) (fun _ => rfl) (Nat.le_of_ble_eq_true rfl) rfl rfl (fun x11 => ?_)
  refine s_iadd (pc := 14) dX5_many_14 ?_
  exact s_iret (pc := 15) dX5_many_15 rfl rfl
def Rs_apart   (P : PH) : Option (Int64) :=
  (Dr_together 3 ((P.2 75 4) ||| (P.2 75 5)) (P.1 75 6) P).bind fun (x26 : Int64) =>
  some (((P.2 75 4) ||| (P.2 75 5)) &&& (x26 ^^^ (-1 : Int64)))
set_option maxRecDepth 100000 in
set_option maxHeartbeats 4000000 in
theorem Rs_apart_ok {G : GT} {l : Launch} (hG : GOK G l)   (P : PH) : OkN G l yX5_apart miX5_apart 0 0 (tL P) [.ref (gA G 75)] P (Rs_apart P) := by
  refine okN_of hG _ [(0, .ref (gA G 75))] rfl rfl rfl (Nat.le_of_ble_eq_true rfl) rfl ?_
  unfold Rs_apart
  refine s_aload_n (pc := 0) 0 dX5_apart_0 rfl rfl ?_
  refine s_getL (pc := 1) dX5_apart_1 (fi_X5_43 hG) kd_75 ?_
  refine s_aload_n (pc := 4) 0 dX5_apart_4 rfl rfl ?_
  refine s_getL (pc := 5) dX5_apart_5 (fi_X5_47 hG) kd_75 ?_
  refine s_lor (pc := 8) dX5_apart_8 ?_
  refine s_aload_n (pc := 9) 0 dX5_apart_9 rfl rfl ?_
  refine s_getR (pc := 10) 3 dX5_apart_10 (fi_X5_15 hG) kd_75 rfl ?_
  refine s_aload_n (pc := 13) 0 dX5_apart_13 rfl rfl ?_
  refine s_getL (pc := 14) dX5_apart_14 (fi_X5_43 hG) kd_75 ?_
  refine s_aload_n (pc := 17) 0 dX5_apart_17 rfl rfl ?_
  refine s_getL (pc := 18) dX5_apart_18 (fi_X5_47 hG) kd_75 ?_
  refine s_lor (pc := 21) dX5_apart_21 ?_
  refine s_aload_n (pc := 22) 0 dX5_apart_22 rfl rfl ?_
  refine s_getI (pc := 23) dX5_apart_23 (fi_X5_50 hG) kd_75 ?_
  refine s_callV (k := 0) (n := 0) (pc := 26) [.long ((P.2 75 4) ||| (P.2 75 5)), .int (P.1 75 6)] (fun x26 => .long x26 :: [.long ((P.2 75 4) ||| (P.2 75 5))]) (fun _ => P) dX5_apart_26 (cV_X5_60 hG) (Nat.le_of_ble_eq_true rfl) rfl kd_3 (Dr_together_ok hG 3 kd_3 ((P.2 75 4) ||| (P.2 75 5)) (P.1 75 6) P) rfl (fun _ => rfl) (fun _ => rfl) (Nat.le_of_ble_eq_true rfl) rfl rfl (fun x26 => ?_)
  refine s_ldc2 (pc := 29) (v := (-1)) dX5_apart_29 (gw_X5_66 hG) ?_
  refine s_lxor (pc := 32) dX5_apart_32 ?_
  refine s_land (pc := 33) dX5_apart_33 ?_
  exact s_lret (pc := 34) dX5_apart_34 rfl rfl
def Rs_hangs   (P : PH) : Option (Int32) :=
  (Rs_apart P).bind fun (x1 : Int64) =>
  if (lg_cmp x1 (0 : Int64)) = 0 then
    gdP ((1 : Int32) = 0 ∨ (1 : Int32) = 1) <|
    some (1 : Int32)
  else
    gdP ((0 : Int32) = 0 ∨ (0 : Int32) = 1) <|
    some (0 : Int32)
set_option maxRecDepth 100000 in
set_option maxHeartbeats 4000000 in
theorem Rs_hangs_ok {G : GT} {l : Launch} (hG : GOK G l)   (P : PH) : OkN G l yX5_hangs miX5_hangs 0 0 (tI P) [.ref (gA G 75)] P (Rs_hangs P) := by
  refine okN_of hG _ [(0, .ref (gA G 75))] rfl rfl rfl (Nat.le_of_ble_eq_true rfl) rfl ?_
  unfold Rs_hangs
  refine s_aload_n (pc := 0) 0 dX5_hangs_0 rfl rfl ?_
  refine s_callV (k := 0) (n := 0) (pc := 1) [] (fun x1 => .long x1 :: []) (fun _ => P) dX5_hangs_1 (cV_X5_68 hG) (Nat.le_of_ble_eq_true rfl) rfl kd_75 (Rs_apart_ok hG P) rfl (fun _ => rfl) (fun _ => rfl) (Nat.le_of_ble_eq_true rfl) rfl rfl (fun x1 => ?_)
  refine s_lconst (pc := 4) (v := 0) dX5_hangs_4 rfl ?_
  refine s_lcmp (pc := 5) dX5_hangs_5 ?_
  refine s_if_ne (pc := 6) 13 dX5_hangs_6 rfl ?_ ?_
  · refine s_iconst (pc := 9) (v := 1) dX5_hangs_9 rfl ?_
    refine s_goto (pc := 10) 14 dX5_hangs_10 rfl ?_
    exact s_zret (pc := 14) dX5_hangs_14 rfl rfl
  · refine s_iconst (pc := 13) (v := 0) dX5_hangs_13 rfl ?_
    exact s_zret (pc := 14) dX5_hangs_14 rfl rfl
def Rs_unmatched  (v1 : Int32) (P : PH) : Option (Int32) :=
  (Dr_linesAt 3 v1 P).bind fun (x5 : Int64) =>
  (Jl_bitCount (x5 &&& (P.2 75 4)) P).bind fun (x15 : Int32) =>
  (Jl_bitCount (x5 &&& (P.2 75 5)) P).bind fun (x24 : Int32) =>
  (some (x15 - x24)).bind fun (u4_28 : Int32) =>
  if v1 = (P.1 75 6) then
    if (P.1 75 7) = 0 then
      some (u4_28 + (1 : Int32))
    else
      some (u4_28 - (1 : Int32))
  else
    some u4_28
set_option maxRecDepth 100000 in
set_option maxHeartbeats 4000000 in
theorem Rs_unmatched_ok {G : GT} {l : Launch} (hG : GOK G l)  (v1 : Int32) (P : PH) : OkN G l yX5_unmatched miX5_unmatched 0 0 (tI P) [.ref (gA G 75), .int v1] P (Rs_unmatched v1 P) := by
  refine okN_of hG _ [(0, .ref (gA G 75)), (1, .int v1)] rfl rfl rfl (Nat.le_of_ble_eq_true rfl) rfl ?_
  unfold Rs_unmatched
  refine s_aload_n (pc := 0) 0 dX5_unmatched_0 rfl rfl ?_
  refine s_getR (pc := 1) 3 dX5_unmatched_1 (fi_X5_15 hG) kd_75 rfl ?_
  refine s_iload_n (pc := 4) 1 dX5_unmatched_4 rfl rfl ?_
  refine s_callV (k := 0) (n := 0) (pc := 5) [.int v1] (fun x5 => .long x5 :: []) (fun _ => P) dX5_unmatched_5 (cV_X5_94 hG) (Nat.le_of_ble_eq_true rfl) rfl kd_3 (Dr_linesAt_ok hG 3 kd_3 v1 P) rfl (fun _ => rfl) (fun _ => rfl) (Nat.le_of_ble_eq_true rfl) rfl rfl (fun x5 => ?_)
  refine s_lstore_n (pc := 8) [(2, .long x5), (0, .ref (gA G 75)), (1, .int v1)] dX5_unmatched_8 rfl (Nat.le_of_ble_eq_true rfl) rfl ?_
  refine s_lload_n (pc := 9) 0 dX5_unmatched_9 rfl rfl ?_
  refine s_aload_n (pc := 10) 1 dX5_unmatched_10 rfl rfl ?_
  refine s_getL (pc := 11) dX5_unmatched_11 (fi_X5_43 hG) kd_75 ?_
  refine s_land (pc := 14) dX5_unmatched_14 ?_
  refine s_callS (k := 0) (n := 0) (pc := 15) [.long (x5 &&& (P.2 75 4))] (fun x15 => .int x15 :: []) (fun _ => P) dX5_unmatched_15 (cS_X5_54 hG) (Nat.le_of_ble_eq_true rfl) rfl (Jl_bitCount_ok hG (x5 &&& (P.2 75 4)) P) rfl (fun _ => rfl) (fun _ => rfl) (Nat.le_of_ble_eq_true rfl) rfl rfl (fun x15 => ?_)
  refine s_lload_n (pc := 18) 0 dX5_unmatched_18 rfl rfl ?_
  refine s_aload_n (pc := 19) 1 dX5_unmatched_19 rfl rfl ?_
  refine s_getL (pc := 20) dX5_unmatched_20 (fi_X5_47 hG) kd_75 ?_
  refine s_land (pc := 23) dX5_unmatched_23 ?_
  refine s_callS (k := 0) (n := 0) (pc := 24) [.long (x5 &&& (P.2 75 5))] (fun x24 => .int x24 :: [.int x15]) (fun _ => P) dX5_unmatched_24 (cS_X5_54 hG) (Nat.le_of_ble_eq_true rfl) rfl (Jl_bitCount_ok hG (x5 &&& (P.2 75 5)) P) rfl (fun _ => rfl) (fun _ => rfl) (Nat.le_of_ble_eq_true rfl) rfl rfl (fun x24 => ?_)
  refine s_isub (pc := 27) dX5_unmatched_27 ?_
  refine s_letI (fun u4_28 => ?_)
  refine s_istore (pc := 28) [(4, .int u4_28), (2, .long x5), (0, .ref (gA G 75)), (1, .int v1)] dX5_unmatched_28 (Nat.le_of_ble_eq_true rfl) rfl ?_
  refine s_iload_n (pc := 30) 3 dX5_unmatched_30 rfl rfl ?_
  refine s_aload_n (pc := 31) 2 dX5_unmatched_31 rfl rfl ?_
  refine s_getI (pc := 32) dX5_unmatched_32 (fi_X5_50 hG) kd_75 ?_
  refine s_icmp_eq (pc := 35) 41 dX5_unmatched_35 rfl ?_ ?_
  · refine s_aload_n (pc := 41) 2 dX5_unmatched_41 rfl rfl ?_
    refine s_getI (pc := 42) dX5_unmatched_42 (fi_X5_51 hG) kd_75 ?_
    refine s_if_eq (pc := 45) 55 dX5_unmatched_45 rfl ?_ ?_
    · refine s_iload (pc := 55) 0 dX5_unmatched_55 rfl ?_
      refine s_iconst (pc := 57) (v := 1) dX5_unmatched_57 rfl ?_
      refine s_iadd (pc := 58) dX5_unmatched_58 ?_
      exact s_iret (pc := 59) dX5_unmatched_59 rfl rfl
    · refine s_iload (pc := 48) 0 dX5_unmatched_48 rfl ?_
      refine s_iconst (pc := 50) (v := 1) dX5_unmatched_50 rfl ?_
      refine s_isub (pc := 51) dX5_unmatched_51 ?_
      refine s_goto (pc := 52) 59 dX5_unmatched_52 rfl ?_
      exact s_iret (pc := 59) dX5_unmatched_59 rfl rfl
  · refine s_iload (pc := 38) 0 dX5_unmatched_38 rfl ?_
    exact s_iret (pc := 40) dX5_unmatched_40 rfl rfl
def Rs_matches_54  (r7 : Int32 → PH → Option (Int32 × PH)) (v1 : Int32) (v2 : Int32) (P : PH) : Option (Int32 × PH) :=
  if v2 = 0 then
    r7 (v1 + 1) P
  else
    (some (sI P 75 2 v1)).bind fun (P60 : PH) =>
    r7 (v1 + 1) P60
set_option maxRecDepth 100000 in
set_option maxHeartbeats 4000000 in
theorem Rs_matches_54_sem {G : GT} {l : Launch} (hG : GOK G l)  (v1 : Int32) (v2 : Int32) (P : PH)  (r7 : Int32 → PH → Option (Int32 × PH)) (hr7 : ∀ (v1 : Int32) (P : PH), Sem G l miX5_matches 0 0 (rn tIH) 7 [(0, .ref (gA G 75)), (1, .int v1)] [] P (r7 v1 P)) : Sem G l miX5_matches 0 0 (rn tIH) 54 [(0, .ref (gA G 75)), (1, .int v1), (2, .int v2)] [] P (Rs_matches_54 r7 v1 v2 P) := by
  unfold Rs_matches_54
  refine s_iload_n (pc := 54) 2 dX5_matches_54 rfl rfl ?_
  refine s_if_eq (pc := 55) 63 dX5_matches_55 rfl ?_ ?_
  · refine s_iinc (pc := 63) 1 1 [(1, .int (v1 + 1)), (0, .ref (gA G 75)), (2, .int v2)] dX5_matches_63 rfl rfl (Nat.le_of_ble_eq_true rfl) rfl ?_
    refine s_goto (pc := 66) 7 dX5_matches_66 rfl ?_
    refine s_sub [1, 0] rfl ?_
    exact hr7 (v1 + 1) P
  · refine s_aload_n (pc := 58) 0 dX5_matches_58 rfl rfl ?_
    refine s_iload_n (pc := 59) 1 dX5_matches_59 rfl rfl ?_
    refine s_putI (pc := 60) dX5_matches_60 (fp_X5_84 hG) kd_75 ?_
    refine s_letP (fun P60 => ?_)
    refine s_iinc (pc := 63) 1 1 [(1, .int (v1 + 1)), (0, .ref (gA G 75)), (2, .int v2)] dX5_matches_63 rfl rfl (Nat.le_of_ble_eq_true rfl) rfl ?_
    refine s_goto (pc := 66) 7 dX5_matches_66 rfl ?_
    refine s_sub [1, 0] rfl ?_
    exact hr7 (v1 + 1) P60
def Rs_matches_7     : Nat → Int32 → PH → Option (Int32 × PH)
  | 0 => fun _ _ => none
  | n + 1 => fun v1 P =>
    if (144 : Int32) ≤ v1 then
      gdP ((1 : Int32) = 0 ∨ (1 : Int32) = 1) <|
      some ((1 : Int32), P)
    else
      (Rs_unmatched v1 P).bind fun (x16 : Int32) =>
      if x16 = 0 then
        Rs_matches_54 (Rs_matches_7  n) v1 x16 P
      else
        if (P.1 75 2) = (-1 : Int32) then
          if (1 : Int32) < x16 then
            (some (sI P 75 2 (-1 : Int32))).bind fun (P44 : PH) =>
            (some (sI P44 75 1 v1)).bind fun (P49 : PH) =>
            gdP ((0 : Int32) = 0 ∨ (0 : Int32) = 1) <|
            some ((0 : Int32), P49)
          else
            if (-1 : Int32) ≤ x16 then
              Rs_matches_54 (Rs_matches_7  n) v1 x16 P
            else
              (some (sI P 75 2 (-1 : Int32))).bind fun (P44 : PH) =>
              (some (sI P44 75 1 v1)).bind fun (P49 : PH) =>
              gdP ((0 : Int32) = 0 ∨ (0 : Int32) = 1) <|
              some ((0 : Int32), P49)
        else
          (some (sI P 75 2 (-1 : Int32))).bind fun (P44 : PH) =>
          (some (sI P44 75 1 v1)).bind fun (P49 : PH) =>
          gdP ((0 : Int32) = 0 ∨ (0 : Int32) = 1) <|
          some ((0 : Int32), P49)
set_option maxRecDepth 100000 in
set_option maxHeartbeats 4000000 in
theorem Rs_matches_7_sem {G : GT} {l : Launch} (hG : GOK G l)      : ∀ (n : Nat) (v1 : Int32) (P : PH), Sem G l miX5_matches 0 0 (rn tIH) 7 [(0, .ref (gA G 75)), (1, .int v1)] [] P (Rs_matches_7  n v1 P) := by
  intro n
  induction n with
  | zero => intro v1 P; exact s_none rfl
  | succ n ih =>
    intro v1 P
    rw [Rs_matches_7]
    refine s_iload_n (pc := 7) 1 dX5_matches_7 rfl rfl ?_
    refine s_sipush (pc := 8) (v := 144) dX5_matches_8 rfl ?_
    refine s_icmp_ge (pc := 11) 69 dX5_matches_11 rfl ?_ ?_
    · refine s_iconst (pc := 69) (v := 1) dX5_matches_69 rfl ?_
      exact s_zret (pc := 70) dX5_matches_70 rfl rfl
    · refine s_aload_n (pc := 14) 0 dX5_matches_14 rfl rfl ?_
      refine s_iload_n (pc := 15) 1 dX5_matches_15 rfl rfl ?_
      refine s_callV (k := 0) (n := 0) (pc := 16) [.int v1] (fun x16 => .int x16 :: []) (fun _ => P) dX5_matches_16 (cV_X5_90 hG) (Nat.le_of_ble_eq_true rfl) rfl kd_75 (Rs_unmatched_ok hG v1 P) rfl (fun _ => rfl) (fun _ => rfl) (Nat.le_of_ble_eq_true rfl) rfl rfl (fun x16 => ?_)
      refine s_istore_n (pc := 19) [(2, .int x16), (0, .ref (gA G 75)), (1, .int v1)] dX5_matches_19 rfl (Nat.le_of_ble_eq_true rfl) rfl ?_
      refine s_iload_n (pc := 20) 0 dX5_matches_20 rfl rfl ?_
      refine s_if_eq (pc := 21) 54 dX5_matches_21 rfl ?_ ?_
      · refine s_sub [1, 2, 0] rfl ?_
        exact Rs_matches_54_sem hG v1 x16 P (Rs_matches_7  n) ih
      · refine s_aload_n (pc := 24) 1 dX5_matches_24 rfl rfl ?_
        refine s_getI (pc := 25) dX5_matches_25 (fi_X5_84 hG) kd_75 ?_
        refine s_iconst (pc := 28) (v := -1) dX5_matches_28 rfl ?_
        refine s_icmp_ne (pc := 29) 42 dX5_matches_29 rfl ?_ ?_
        · refine s_iload_n (pc := 32) 0 dX5_matches_32 rfl rfl ?_
          refine s_iconst (pc := 33) (v := 1) dX5_matches_33 rfl ?_
          refine s_icmp_gt (pc := 34) 42 dX5_matches_34 rfl ?_ ?_
          · refine s_aload_n (pc := 42) 1 dX5_matches_42 rfl rfl ?_
            refine s_iconst (pc := 43) (v := -1) dX5_matches_43 rfl ?_
            refine s_putI (pc := 44) dX5_matches_44 (fp_X5_84 hG) kd_75 ?_
            refine s_letP (fun P44 => ?_)
            refine s_aload_n (pc := 47) 1 dX5_matches_47 rfl rfl ?_
            refine s_iload_n (pc := 48) 2 dX5_matches_48 rfl rfl ?_
            refine s_putI (pc := 49) dX5_matches_49 (fp_X5_81 hG) kd_75 ?_
            refine s_letP (fun P49 => ?_)
            refine s_iconst (pc := 52) (v := 0) dX5_matches_52 rfl ?_
            exact s_zret (pc := 53) dX5_matches_53 rfl rfl
          · refine s_iload_n (pc := 37) 0 dX5_matches_37 rfl rfl ?_
            refine s_iconst (pc := 38) (v := -1) dX5_matches_38 rfl ?_
            refine s_icmp_ge (pc := 39) 54 dX5_matches_39 rfl ?_ ?_
            · refine s_sub [1, 2, 0] rfl ?_
              exact Rs_matches_54_sem hG v1 x16 P (Rs_matches_7  n) ih
            · refine s_aload_n (pc := 42) 1 dX5_matches_42 rfl rfl ?_
              refine s_iconst (pc := 43) (v := -1) dX5_matches_43 rfl ?_
              refine s_putI (pc := 44) dX5_matches_44 (fp_X5_84 hG) kd_75 ?_
              refine s_letP (fun P44 => ?_)
              refine s_aload_n (pc := 47) 1 dX5_matches_47 rfl rfl ?_
              refine s_iload_n (pc := 48) 2 dX5_matches_48 rfl rfl ?_
              refine s_putI (pc := 49) dX5_matches_49 (fp_X5_81 hG) kd_75 ?_
              refine s_letP (fun P49 => ?_)
              refine s_iconst (pc := 52) (v := 0) dX5_matches_52 rfl ?_
              exact s_zret (pc := 53) dX5_matches_53 rfl rfl
        · refine s_aload_n (pc := 42) 1 dX5_matches_42 rfl rfl ?_
          refine s_iconst (pc := 43) (v := -1) dX5_matches_43 rfl ?_
          refine s_putI (pc := 44) dX5_matches_44 (fp_X5_84 hG) kd_75 ?_
          refine s_letP (fun P44 => ?_)
          refine s_aload_n (pc := 47) 1 dX5_matches_47 rfl rfl ?_
          refine s_iload_n (pc := 48) 2 dX5_matches_48 rfl rfl ?_
          refine s_putI (pc := 49) dX5_matches_49 (fp_X5_81 hG) kd_75 ?_
          refine s_letP (fun P49 => ?_)
          refine s_iconst (pc := 52) (v := 0) dX5_matches_52 rfl ?_
          exact s_zret (pc := 53) dX5_matches_53 rfl rfl
def Rs_matches   (P : PH) : Option (Int32 × PH) :=
  (some (sI P 75 2 (-1 : Int32))).bind fun (P2 : PH) =>
  Rs_matches_7  bigN (0 : Int32) P2
set_option maxRecDepth 100000 in
set_option maxHeartbeats 4000000 in
theorem Rs_matches_ok {G : GT} {l : Launch} (hG : GOK G l)   (P : PH) : OkN G l yX5_matches miX5_matches 0 0 tIH [.ref (gA G 75)] P (Rs_matches P) := by
  refine okN_of hG _ [(0, .ref (gA G 75))] rfl rfl rfl (Nat.le_of_ble_eq_true rfl) rfl ?_
  unfold Rs_matches
  refine s_aload_n (pc := 0) 0 dX5_matches_0 rfl rfl ?_
  refine s_iconst (pc := 1) (v := -1) dX5_matches_1 rfl ?_
  refine s_putI (pc := 2) dX5_matches_2 (fp_X5_84 hG) kd_75 ?_
  refine s_letP (fun P2 => ?_)
  refine s_iconst (pc := 5) (v := 0) dX5_matches_5 rfl ?_
  refine s_istore_n (pc := 6) [(1, .int ((0 : Int32))), (0, .ref (gA G 75))] dX5_matches_6 rfl (Nat.le_of_ble_eq_true rfl) rfl ?_
  refine s_sub [1, 0] rfl ?_
  exact Rs_matches_7_sem hG  bigN (0 : Int32) P2
def Rs_endsWell   (P : PH) : Option (Int32 × PH) :=
  (Rs_hangs P).bind fun (x1 : Int32) =>
  if x1 = 0 then
    gdP ((0 : Int32) = 0 ∨ (0 : Int32) = 1) <|
    some ((0 : Int32), P)
  else
    (Rs_matches P).bind fun (x8 : Int32 × PH) =>
    if x8.1 = 0 then
      gdP ((0 : Int32) = 0 ∨ (0 : Int32) = 1) <|
      some ((0 : Int32), x8.2)
    else
      gdP ((1 : Int32) = 0 ∨ (1 : Int32) = 1) <|
      some ((1 : Int32), x8.2)
set_option maxRecDepth 100000 in
set_option maxHeartbeats 4000000 in
theorem Rs_endsWell_ok {G : GT} {l : Launch} (hG : GOK G l)   (P : PH) : OkN G l yX5_endsWell miX5_endsWell 0 0 tIH [.ref (gA G 75)] P (Rs_endsWell P) := by
  refine okN_of hG _ [(0, .ref (gA G 75))] rfl rfl rfl (Nat.le_of_ble_eq_true rfl) rfl ?_
  unfold Rs_endsWell
  refine s_aload_n (pc := 0) 0 dX5_endsWell_0 rfl rfl ?_
  refine s_callV (k := 0) (n := 0) (pc := 1) [] (fun x1 => .int x1 :: []) (fun _ => P) dX5_endsWell_1 (cV_X5_72 hG) (Nat.le_of_ble_eq_true rfl) rfl kd_75 (Rs_hangs_ok hG P) rfl (fun _ => rfl) (fun _ => rfl) (Nat.le_of_ble_eq_true rfl) rfl rfl (fun x1 => ?_)
  refine s_if_eq (pc := 4) 18 dX5_endsWell_4 rfl ?_ ?_
  · refine s_iconst (pc := 18) (v := 0) dX5_endsWell_18 rfl ?_
    exact s_zret (pc := 19) dX5_endsWell_19 rfl rfl
  · refine s_aload_n (pc := 7) 0 dX5_endsWell_7 rfl rfl ?_
    refine s_callV (k := 0) (n := 0) (pc := 8) [] (fun x8 => .int (x8.1) :: []) (fun x8 => x8.2) dX5_endsWell_8 (cV_X5_75 hG) (Nat.le_of_ble_eq_true rfl) rfl kd_75 (Rs_matches_ok hG P) rfl (fun _ => rfl) (fun _ => rfl) (Nat.le_of_ble_eq_true rfl) rfl rfl (fun x8 => ?_)
    refine s_if_eq (pc := 11) 18 dX5_endsWell_11 rfl ?_ ?_
    · refine s_iconst (pc := 18) (v := 0) dX5_endsWell_18 rfl ?_
      exact s_zret (pc := 19) dX5_endsWell_19 rfl rfl
    · refine s_iconst (pc := 14) (v := 1) dX5_endsWell_14 rfl ?_
      refine s_goto (pc := 15) 19 dX5_endsWell_15 rfl ?_
      exact s_zret (pc := 19) dX5_endsWell_19 rfl rfl
def Rs_look   (P : PH) : Option (PH) :=
  (some (sI P 75 0 (0 : Int32))).bind fun (P2 : PH) =>
  (some (sI P2 75 1 (-1 : Int32))).bind fun (P7 : PH) =>
  (some (sI P7 75 2 (-1 : Int32))).bind fun (P12 : PH) =>
  (Rs_apart P12).bind fun (x16 : Int64) =>
  if (lg_cmp x16 (0 : Int64)) = 0 then
    (Rs_matches P12).bind fun (x43 : Int32 × PH) =>
    if x43.1 = 0 then
      (some (sI x43.2 75 0 (2 : Int32))).bind fun (P51 : PH) =>
      some P51
    else
      some (x43.2)
  else
    (some (sI P12 75 0 (1 : Int32))).bind fun (P28 : PH) =>
    (Bs_lowest x16 P28).bind fun (x33 : Int32) =>
    (some (sI P28 75 1 x33)).bind fun (P36 : PH) =>
    some P36
set_option maxRecDepth 100000 in
set_option maxHeartbeats 4000000 in
theorem Rs_look_ok {G : GT} {l : Launch} (hG : GOK G l)   (P : PH) : OkN G l yX5_look miX5_look 0 0 tVH [.ref (gA G 75)] P (Rs_look P) := by
  refine okN_of hG _ [(0, .ref (gA G 75))] rfl rfl rfl (Nat.le_of_ble_eq_true rfl) rfl ?_
  unfold Rs_look
  refine s_aload_n (pc := 0) 0 dX5_look_0 rfl rfl ?_
  refine s_iconst (pc := 1) (v := 0) dX5_look_1 rfl ?_
  refine s_putI (pc := 2) dX5_look_2 (fp_X5_78 hG) kd_75 ?_
  refine s_letP (fun P2 => ?_)
  refine s_aload_n (pc := 5) 0 dX5_look_5 rfl rfl ?_
  refine s_iconst (pc := 6) (v := -1) dX5_look_6 rfl ?_
  refine s_putI (pc := 7) dX5_look_7 (fp_X5_81 hG) kd_75 ?_
  refine s_letP (fun P7 => ?_)
  refine s_aload_n (pc := 10) 0 dX5_look_10 rfl rfl ?_
  refine s_iconst (pc := 11) (v := -1) dX5_look_11 rfl ?_
  refine s_putI (pc := 12) dX5_look_12 (fp_X5_84 hG) kd_75 ?_
  refine s_letP (fun P12 => ?_)
  refine s_aload_n (pc := 15) 0 dX5_look_15 rfl rfl ?_
  refine s_callV (k := 0) (n := 0) (pc := 16) [] (fun x16 => .long x16 :: []) (fun _ => P12) dX5_look_16 (cV_X5_68 hG) (Nat.le_of_ble_eq_true rfl) rfl kd_75 (Rs_apart_ok hG P12) rfl (fun _ => rfl) (fun _ => rfl) (Nat.le_of_ble_eq_true rfl) rfl rfl (fun x16 => ?_)
  refine s_lstore_n (pc := 19) [(1, .long x16), (0, .ref (gA G 75))] dX5_look_19 rfl (Nat.le_of_ble_eq_true rfl) rfl ?_
  refine s_lload_n (pc := 20) 0 dX5_look_20 rfl rfl ?_
  refine s_lconst (pc := 21) (v := 0) dX5_look_21 rfl ?_
  refine s_lcmp (pc := 22) dX5_look_22 ?_
  refine s_if_eq (pc := 23) 42 dX5_look_23 rfl ?_ ?_
  · refine s_aload_n (pc := 42) 1 dX5_look_42 rfl rfl ?_
    refine s_callV (k := 0) (n := 0) (pc := 43) [] (fun x43 => .int (x43.1) :: []) (fun x43 => x43.2) dX5_look_43 (cV_X5_75 hG) (Nat.le_of_ble_eq_true rfl) rfl kd_75 (Rs_matches_ok hG P12) rfl (fun _ => rfl) (fun _ => rfl) (Nat.le_of_ble_eq_true rfl) rfl rfl (fun x43 => ?_)
    refine s_if_ne (pc := 46) 54 dX5_look_46 rfl ?_ ?_
    · refine s_aload_n (pc := 49) 1 dX5_look_49 rfl rfl ?_
      refine s_iconst (pc := 50) (v := 2) dX5_look_50 rfl ?_
      refine s_putI (pc := 51) dX5_look_51 (fp_X5_78 hG) kd_75 ?_
      refine s_letP (fun P51 => ?_)
      exact s_vret (pc := 54) dX5_look_54 rfl rfl
    · exact s_vret (pc := 54) dX5_look_54 rfl rfl
  · refine s_aload_n (pc := 26) 1 dX5_look_26 rfl rfl ?_
    refine s_iconst (pc := 27) (v := 1) dX5_look_27 rfl ?_
    refine s_putI (pc := 28) dX5_look_28 (fp_X5_78 hG) kd_75 ?_
    refine s_letP (fun P28 => ?_)
    refine s_aload_n (pc := 31) 1 dX5_look_31 rfl rfl ?_
    refine s_lload_n (pc := 32) 0 dX5_look_32 rfl rfl ?_
    refine s_callSN (k := 0) (n := 0) (pc := 33) [.long x16] (fun x33 => .int x33 :: [.ref (gA G 75)]) (fun _ => P28) dX5_look_33 (cSN_X5_87 hG) (Nat.le_of_ble_eq_true rfl) rfl (Bs_lowest_ok hG x16 P28) rfl (fun _ => rfl) (fun _ => rfl) (Nat.le_of_ble_eq_true rfl) rfl rfl (fun x33 => ?_)
    refine s_putI (pc := 36) dX5_look_36 (fp_X5_81 hG) kd_75 ?_
    refine s_letP (fun P36 => ?_)
    refine s_goto (pc := 39) 54 dX5_look_39 rfl ?_
    exact s_vret (pc := 54) dX5_look_54 rfl rfl
def Rs_wayOf  (v1 : Int32) (P : PH) : Option (Int32) :=
  if v1 < 0 then
    some (-1 : Int32)
  else
    if (P.1 75 9) ≤ v1 then
      some (-1 : Int32)
    else
      if (120 : Int32) ≤ v1 then
        some (-1 : Int32)
      else
        gdI v1 120 <|
        some (P.1 76 v1.toNatClampNeg)
set_option maxRecDepth 100000 in
set_option maxHeartbeats 4000000 in
theorem Rs_wayOf_ok {G : GT} {l : Launch} (hG : GOK G l)  (v1 : Int32) (P : PH) : OkN G l yX5_wayOf miX5_wayOf 0 0 (tI P) [.ref (gA G 75), .int v1] P (Rs_wayOf v1 P) := by
  refine okN_of hG _ [(0, .ref (gA G 75)), (1, .int v1)] rfl rfl rfl (Nat.le_of_ble_eq_true rfl) rfl ?_
  unfold Rs_wayOf
  refine s_iload_n (pc := 0) 1 dX5_wayOf_0 rfl rfl ?_
  refine s_if_lt (pc := 1) 30 dX5_wayOf_1 rfl ?_ ?_
  · refine s_iconst (pc := 30) (v := -1) dX5_wayOf_30 rfl ?_
    exact s_iret (pc := 31) dX5_wayOf_31 rfl rfl
  · refine s_iload_n (pc := 4) 1 dX5_wayOf_4 rfl rfl ?_
    refine s_aload_n (pc := 5) 0 dX5_wayOf_5 rfl rfl ?_
    refine s_getI (pc := 6) dX5_wayOf_6 (fi_X5_97 hG) kd_75 ?_
    refine s_icmp_ge (pc := 9) 30 dX5_wayOf_9 rfl ?_ ?_
    · refine s_iconst (pc := 30) (v := -1) dX5_wayOf_30 rfl ?_
      exact s_iret (pc := 31) dX5_wayOf_31 rfl rfl
    · refine s_iload_n (pc := 12) 1 dX5_wayOf_12 rfl rfl ?_
      refine s_aload_n (pc := 13) 0 dX5_wayOf_13 rfl rfl ?_
      refine s_getR (pc := 14) 76 dX5_wayOf_14 (fi_X5_9 hG) kd_75 rfl ?_
      refine s_alen (pc := 17) (t := 1) 120 120 dX5_wayOf_17 kd_76 (Nat.le_of_ble_eq_true rfl) ln_76 rfl ?_
      refine s_icmp_ge (pc := 18) 30 dX5_wayOf_18 rfl ?_ ?_
      · refine s_iconst (pc := 30) (v := -1) dX5_wayOf_30 rfl ?_
        exact s_iret (pc := 31) dX5_wayOf_31 rfl rfl
      · refine s_aload_n (pc := 21) 0 dX5_wayOf_21 rfl rfl ?_
        refine s_getR (pc := 22) 76 dX5_wayOf_22 (fi_X5_9 hG) kd_75 rfl ?_
        refine s_iload_n (pc := 25) 1 dX5_wayOf_25 rfl rfl ?_
        refine s_iald (pc := 26) 120 dX5_wayOf_26 kd_76 ln_76 ?_
        refine s_goto (pc := 27) 31 dX5_wayOf_27 rfl ?_
        exact s_iret (pc := 31) dX5_wayOf_31 rfl rfl
def Rs_turn  (v1 : Int32) (P : PH) : Option (PH) :=
  if (P.1 75 7) = 0 then
    (some (sL P 75 5 ((P.2 75 5) ^^^ ((1 : Int64) <<< (v1.toInt64 &&& 63))))).bind fun (P31 : PH) =>
    some P31
  else
    (some (sL P 75 4 ((P.2 75 4) ^^^ ((1 : Int64) <<< (v1.toInt64 &&& 63))))).bind fun (P16 : PH) =>
    some P16
set_option maxRecDepth 100000 in
set_option maxHeartbeats 4000000 in
theorem Rs_turn_ok {G : GT} {l : Launch} (hG : GOK G l)  (v1 : Int32) (P : PH) : OkN G l yX5_turn miX5_turn 0 0 tVH [.ref (gA G 75), .int v1] P (Rs_turn v1 P) := by
  refine okN_of hG _ [(0, .ref (gA G 75)), (1, .int v1)] rfl rfl rfl (Nat.le_of_ble_eq_true rfl) rfl ?_
  unfold Rs_turn
  refine s_aload_n (pc := 0) 0 dX5_turn_0 rfl rfl ?_
  refine s_getI (pc := 1) dX5_turn_1 (fi_X5_51 hG) kd_75 ?_
  refine s_if_eq (pc := 4) 22 dX5_turn_4 rfl ?_ ?_
  · refine s_aload_n (pc := 22) 0 dX5_turn_22 rfl rfl ?_
    refine s_dup (pc := 23) dX5_turn_23 rfl ?_
    refine s_getL (pc := 24) dX5_turn_24 (fi_X5_47 hG) kd_75 ?_
    refine s_lconst (pc := 27) (v := 1) dX5_turn_27 rfl ?_
    refine s_iload_n (pc := 28) 1 dX5_turn_28 rfl rfl ?_
    refine s_lshl (pc := 29) dX5_turn_29 ?_
    refine s_lxor (pc := 30) dX5_turn_30 ?_
    refine s_putL (pc := 31) dX5_turn_31 (fp_X5_47 hG) kd_75 ?_
    refine s_letP (fun P31 => ?_)
    exact s_vret (pc := 34) dX5_turn_34 rfl rfl
  · refine s_aload_n (pc := 7) 0 dX5_turn_7 rfl rfl ?_
    refine s_dup (pc := 8) dX5_turn_8 rfl ?_
    refine s_getL (pc := 9) dX5_turn_9 (fi_X5_43 hG) kd_75 ?_
    refine s_lconst (pc := 12) (v := 1) dX5_turn_12 rfl ?_
    refine s_iload_n (pc := 13) 1 dX5_turn_13 rfl rfl ?_
    refine s_lshl (pc := 14) dX5_turn_14 ?_
    refine s_lxor (pc := 15) dX5_turn_15 ?_
    refine s_putL (pc := 16) dX5_turn_16 (fp_X5_43 hG) kd_75 ?_
    refine s_letP (fun P16 => ?_)
    refine s_goto (pc := 19) 34 dX5_turn_19 rfl ?_
    exact s_vret (pc := 34) dX5_turn_34 rfl rfl
def Rs_goAlong_18   (v1 : Int32) (s0 : Int32) (P : PH) : Option (PH) :=
  gdP (s0 = 0 ∨ s0 = 1) <|
  (some (sI P 75 7 s0)).bind fun (P18 : PH) =>
  (Dr_otherEnd 3 v1 (P18.1 75 6) P18).bind fun (x31 : Int32) =>
  (some (sI P18 75 6 x31)).bind fun (P34 : PH) =>
  some P34
set_option maxRecDepth 100000 in
set_option maxHeartbeats 4000000 in
theorem Rs_goAlong_18_sem {G : GT} {l : Launch} (hG : GOK G l)  (v1 : Int32) (s0 : Int32) (P : PH)   : Sem G l miX5_goAlong 0 0 (rn tVH) 18 [(0, .ref (gA G 75)), (1, .int v1)] [.int s0, .ref (gA G 75)] P (Rs_goAlong_18 v1 s0 P) := by
  unfold Rs_goAlong_18
  refine s_putZ (pc := 18) dX5_goAlong_18 (fp_X5_51 hG) kd_75 ?_
  refine s_letP (fun P18 => ?_)
  refine s_aload_n (pc := 21) 0 dX5_goAlong_21 rfl rfl ?_
  refine s_aload_n (pc := 22) 0 dX5_goAlong_22 rfl rfl ?_
  refine s_getR (pc := 23) 3 dX5_goAlong_23 (fi_X5_15 hG) kd_75 rfl ?_
  refine s_iload_n (pc := 26) 1 dX5_goAlong_26 rfl rfl ?_
  refine s_aload_n (pc := 27) 0 dX5_goAlong_27 rfl rfl ?_
  refine s_getI (pc := 28) dX5_goAlong_28 (fi_X5_50 hG) kd_75 ?_
  refine s_callV (k := 0) (n := 0) (pc := 31) [.int v1, .int (P18.1 75 6)] (fun x31 => .int x31 :: [.ref (gA G 75)]) (fun _ => P18) dX5_goAlong_31 (cV_X5_124 hG) (Nat.le_of_ble_eq_true rfl) rfl kd_3 (Dr_otherEnd_ok hG 3 kd_3 v1 (P18.1 75 6) P18) rfl (fun _ => rfl) (fun _ => rfl) (Nat.le_of_ble_eq_true rfl) rfl rfl (fun x31 => ?_)
  refine s_putI (pc := 34) dX5_goAlong_34 (fp_X5_50 hG) kd_75 ?_
  refine s_letP (fun P34 => ?_)
  exact s_vret (pc := 37) dX5_goAlong_37 rfl rfl
def Rs_goAlong  (v1 : Int32) (P : PH) : Option (PH) :=
  (Rs_turn v1 P).bind fun (x2 : PH) =>
  if (x2.1 75 7) = 0 then
    Rs_goAlong_18 v1 (1 : Int32) x2
  else
    Rs_goAlong_18 v1 (0 : Int32) x2
set_option maxRecDepth 100000 in
set_option maxHeartbeats 4000000 in
theorem Rs_goAlong_ok {G : GT} {l : Launch} (hG : GOK G l)  (v1 : Int32) (P : PH) : OkN G l yX5_goAlong miX5_goAlong 0 0 tVH [.ref (gA G 75), .int v1] P (Rs_goAlong v1 P) := by
  refine okN_of hG _ [(0, .ref (gA G 75)), (1, .int v1)] rfl rfl rfl (Nat.le_of_ble_eq_true rfl) rfl ?_
  unfold Rs_goAlong
  refine s_aload_n (pc := 0) 0 dX5_goAlong_0 rfl rfl ?_
  refine s_iload_n (pc := 1) 1 dX5_goAlong_1 rfl rfl ?_
  refine s_callV (k := 0) (n := 0) (pc := 2) [.int v1] (fun _ => []) (fun x2 => x2) dX5_goAlong_2 (cV_X5_121 hG) (Nat.le_of_ble_eq_true rfl) rfl kd_75 (Rs_turn_ok hG v1 P) rfl (fun _ => rfl) (fun _ => rfl) (Nat.le_of_ble_eq_true rfl) rfl rfl (fun x2 => ?_)
  refine s_aload_n (pc := 5) 0 dX5_goAlong_5 rfl rfl ?_
  refine s_aload_n (pc := 6) 0 dX5_goAlong_6 rfl rfl ?_
  refine s_getI (pc := 7) dX5_goAlong_7 (fi_X5_51 hG) kd_75 ?_
  refine s_if_ne (pc := 10) 17 dX5_goAlong_10 rfl ?_ ?_
  · refine s_iconst (pc := 13) (v := 1) dX5_goAlong_13 rfl ?_
    refine s_goto (pc := 14) 18 dX5_goAlong_14 rfl ?_
    exact Rs_goAlong_18_sem hG v1 (1 : Int32) x2
  · refine s_iconst (pc := 17) (v := 0) dX5_goAlong_17 rfl ?_
    exact Rs_goAlong_18_sem hG v1 (0 : Int32) x2
