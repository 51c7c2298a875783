def Ne_facesOf_18   (t : Nat) (v1 : Int32) (s0 : Int32) (P : PH) : Option (Int32) :=
  if (lg_cmp (((P.2 t 1) >>> (v1.toInt64 &&& 63)) &&& (1 : Int64)) (0 : Int64)) = 0 then
    some s0
  else
    some (s0 + (2 : Int32))
set_option maxRecDepth 100000 in
set_option maxHeartbeats 4000000 in
theorem Ne_facesOf_18_sem {G : GT} {l : Launch} (hG : GOK G l)  (t : Nat) (ht : kd t = 2) (v1 : Int32) (s0 : Int32) (P : PH)   : Sem G l miX2_facesOf 0 0 (rn (tI P)) 18 [(0, .ref (gA G t)), (1, .int v1)] [.int s0] P (Ne_facesOf_18 t v1 s0 P) := by
  unfold Ne_facesOf_18
  refine s_istore_n (pc := 18) [(2, .int s0), (0, .ref (gA G t)), (1, .int v1)] dX2_facesOf_18 rfl (Nat.le_of_ble_eq_true rfl) rfl ?_
  refine s_aload_n (pc := 19) 1 dX2_facesOf_19 rfl rfl ?_
  refine s_getL (pc := 20) dX2_facesOf_20 (fi_X2_23 hG) ht ?_
  refine s_iload_n (pc := 23) 2 dX2_facesOf_23 rfl rfl ?_
  refine s_lshr (pc := 24) dX2_facesOf_24 ?_
  refine s_lconst (pc := 25) (v := 1) dX2_facesOf_25 rfl ?_
  refine s_land (pc := 26) dX2_facesOf_26 ?_
  refine s_lconst (pc := 27) (v := 0) dX2_facesOf_27 rfl ?_
  refine s_lcmp (pc := 28) dX2_facesOf_28 ?_
  refine s_if_eq (pc := 29) 38 dX2_facesOf_29 rfl ?_ ?_
  · refine s_iload_n (pc := 38) 0 dX2_facesOf_38 rfl rfl ?_
    exact s_iret (pc := 39) dX2_facesOf_39 rfl rfl
  · refine s_iload_n (pc := 32) 0 dX2_facesOf_32 rfl rfl ?_
    refine s_iconst (pc := 33) (v := 2) dX2_facesOf_33 rfl ?_
    refine s_iadd (pc := 34) dX2_facesOf_34 ?_
    refine s_goto (pc := 35) 39 dX2_facesOf_35 rfl ?_
    exact s_iret (pc := 39) dX2_facesOf_39 rfl rfl
def Ne_facesOf  (t : Nat) (v1 : Int32) (P : PH) : Option (Int32) :=
  if (lg_cmp (((P.2 t 0) >>> (v1.toInt64 &&& 63)) &&& (1 : Int64)) (0 : Int64)) = 0 then
    Ne_facesOf_18 t v1 (0 : Int32) P
  else
    Ne_facesOf_18 t v1 (1 : Int32) P
set_option maxRecDepth 100000 in
set_option maxHeartbeats 4000000 in
theorem Ne_facesOf_ok {G : GT} {l : Launch} (hG : GOK G l)  (t : Nat) (ht : kd t = 2) (v1 : Int32) (P : PH) : OkN G l yX2_facesOf miX2_facesOf 0 0 (tI P) [.ref (gA G t), .int v1] P (Ne_facesOf t v1 P) := by
  refine okN_of hG _ [(0, .ref (gA G t)), (1, .int v1)] rfl rfl rfl (Nat.le_of_ble_eq_true rfl) rfl ?_
  unfold Ne_facesOf
  refine s_aload_n (pc := 0) 0 dX2_facesOf_0 rfl rfl ?_
  refine s_getL (pc := 1) dX2_facesOf_1 (fi_X2_19 hG) ht ?_
  refine s_iload_n (pc := 4) 1 dX2_facesOf_4 rfl rfl ?_
  refine s_lshr (pc := 5) dX2_facesOf_5 ?_
  refine s_lconst (pc := 6) (v := 1) dX2_facesOf_6 rfl ?_
  refine s_land (pc := 7) dX2_facesOf_7 ?_
  refine s_lconst (pc := 8) (v := 0) dX2_facesOf_8 rfl ?_
  refine s_lcmp (pc := 9) dX2_facesOf_9 ?_
  refine s_if_eq (pc := 10) 17 dX2_facesOf_10 rfl ?_ ?_
  · refine s_iconst (pc := 17) (v := 0) dX2_facesOf_17 rfl ?_
    exact Ne_facesOf_18_sem hG t ht v1 (0 : Int32) P
  · refine s_iconst (pc := 13) (v := 1) dX2_facesOf_13 rfl ?_
    refine s_goto (pc := 14) 18 dX2_facesOf_14 rfl ?_
    exact Ne_facesOf_18_sem hG t ht v1 (1 : Int32) P
def Ne_openOver  (t : Nat) (v1 : Int32) (P : PH) : Option (Int64) :=
  (Dr_linesOf (ndD t) v1 P).bind fun (x5 : Int64) =>
  some (x5 &&& ((P.2 t 0) ^^^ (-1 : Int64)))
set_option maxRecDepth 100000 in
set_option maxHeartbeats 4000000 in
theorem Ne_openOver_ok {G : GT} {l : Launch} (hG : GOK G l)  (t : Nat) (ht : kd t = 2) (v1 : Int32) (P : PH) : OkN G l yX2_openOver miX2_openOver 0 0 (tL P) [.ref (gA G t), .int v1] P (Ne_openOver t v1 P) := by
  refine okN_of hG _ [(0, .ref (gA G t)), (1, .int v1)] rfl rfl rfl (Nat.le_of_ble_eq_true rfl) rfl ?_
  unfold Ne_openOver
  refine s_aload_n (pc := 0) 0 dX2_openOver_0 rfl rfl ?_
  refine s_getR (pc := 1) (ndD t) dX2_openOver_1 (fi_X2_15 hG) ht rfl ?_
  refine s_iload_n (pc := 4) 1 dX2_openOver_4 rfl rfl ?_
  refine s_callV (k := 0) (n := 0) (pc := 5) [.int v1] (fun x5 => .long x5 :: []) (fun _ => P) dX2_openOver_5 (cV_X2_58 hG) (Nat.le_of_ble_eq_true rfl) rfl (kdf_2_9 ht) (Dr_linesOf_ok hG (ndD t) (kdf_2_9 ht) v1 P) rfl (fun _ => rfl) (fun _ => rfl) (Nat.le_of_ble_eq_true rfl) rfl rfl (fun x5 => ?_)
  refine s_aload_n (pc := 8) 0 dX2_openOver_8 rfl rfl ?_
  refine s_getL (pc := 9) dX2_openOver_9 (fi_X2_19 hG) ht ?_
  refine s_ldc2 (pc := 12) (v := (-1)) dX2_openOver_12 (gw_X2_64 hG) ?_
  refine s_lxor (pc := 15) dX2_openOver_15 ?_
  refine s_land (pc := 16) dX2_openOver_16 ?_
  exact s_lret (pc := 17) dX2_openOver_17 rfl rfl
def Ne_openUnder  (t : Nat) (v1 : Int32) (P : PH) : Option (Int64) :=
  (Dr_linesOf (ndD t) v1 P).bind fun (x5 : Int64) =>
  some (x5 &&& ((P.2 t 1) ^^^ (-1 : Int64)))
set_option maxRecDepth 100000 in
set_option maxHeartbeats 4000000 in
theorem Ne_openUnder_ok {G : GT} {l : Launch} (hG : GOK G l)  (t : Nat) (ht : kd t = 2) (v1 : Int32) (P : PH) : OkN G l yX2_openUnder miX2_openUnder 0 0 (tL P) [.ref (gA G t), .int v1] P (Ne_openUnder t v1 P) := by
  refine okN_of hG _ [(0, .ref (gA G t)), (1, .int v1)] rfl rfl rfl (Nat.le_of_ble_eq_true rfl) rfl ?_
  unfold Ne_openUnder
  refine s_aload_n (pc := 0) 0 dX2_openUnder_0 rfl rfl ?_
  refine s_getR (pc := 1) (ndD t) dX2_openUnder_1 (fi_X2_15 hG) ht rfl ?_
  refine s_iload_n (pc := 4) 1 dX2_openUnder_4 rfl rfl ?_
  refine s_callV (k := 0) (n := 0) (pc := 5) [.int v1] (fun x5 => .long x5 :: []) (fun _ => P) dX2_openUnder_5 (cV_X2_58 hG) (Nat.le_of_ble_eq_true rfl) rfl (kdf_2_9 ht) (Dr_linesOf_ok hG (ndD t) (kdf_2_9 ht) v1 P) rfl (fun _ => rfl) (fun _ => rfl) (Nat.le_of_ble_eq_true rfl) rfl rfl (fun x5 => ?_)
  refine s_aload_n (pc := 8) 0 dX2_openUnder_8 rfl rfl ?_
  refine s_getL (pc := 9) dX2_openUnder_9 (fi_X2_23 hG) ht ?_
  refine s_ldc2 (pc := 12) (v := (-1)) dX2_openUnder_12 (gw_X2_64 hG) ?_
  refine s_lxor (pc := 15) dX2_openUnder_15 ?_
  refine s_land (pc := 16) dX2_openUnder_16 ?_
  exact s_lret (pc := 17) dX2_openUnder_17 rfl rfl
def Ne_stillOpen  (t : Nat) (P : PH) : Option (Int32) :=
  (Ne_openOver t (P.1 t 3) P).bind fun (x5 : Int64) =>
  (Jl_bitCount x5 P).bind fun (x8 : Int32) =>
  (Ne_openUnder t (P.1 t 3) P).bind fun (x16 : Int64) =>
  (Jl_bitCount x16 P).bind fun (x19 : Int32) =>
  some (x8 + x19)
set_option maxRecDepth 100000 in
set_option maxHeartbeats 4000000 in
theorem Ne_stillOpen_ok {G : GT} {l : Launch} (hG : GOK G l)  (t : Nat) (ht : kd t = 2) (P : PH) : OkN G l yX2_stillOpen miX2_stillOpen 0 0 (tI P) [.ref (gA G t)] P (Ne_stillOpen t P) := by
  refine okN_of hG _ [(0, .ref (gA G t))] rfl rfl rfl (Nat.le_of_ble_eq_true rfl) rfl ?_
  unfold Ne_stillOpen
  refine s_aload_n (pc := 0) 0 dX2_stillOpen_0 rfl rfl ?_
  refine s_aload_n (pc := 1) 0 dX2_stillOpen_1 rfl rfl ?_
  refine s_getI (pc := 2) dX2_stillOpen_2 (fi_X2_34 hG) ht ?_
  refine s_callV (k := 0) (n := 0) (pc := 5) [.int (P.1 t 3)] (fun x5 => .long x5 :: []) (fun _ => P) dX2_stillOpen_5 (cV_X2_66 hG) (Nat.le_of_ble_eq_true rfl) rfl ht (Ne_openOver_ok hG t ht (P.1 t 3) P) rfl (fun _ => rfl) (fun _ => rfl) (Nat.le_of_ble_eq_true rfl) rfl rfl (fun x5 => ?_)
  refine s_callS (k := 0) (n := 0) (pc := 8) [.long x5] (fun x8 => .int x8 :: []) (fun _ => P) dX2_stillOpen_8 (cS_X2_69 hG) (Nat.le_of_ble_eq_true rfl) rfl (Jl_bitCount_ok hG x5 P) rfl (fun _ => rfl) (fun _ => rfl) (Nat.le_of_ble_eq_true rfl) rfl rfl (fun x8 => ?_)
  refine s_aload_n (pc := 11) 0 dX2_stillOpen_11 rfl rfl ?_
  refine s_aload_n (pc := 12) 0 dX2_stillOpen_12 rfl rfl ?_
  refine s_getI (pc := 13) dX2_stillOpen_13 (fi_X2_34 hG) ht ?_
  refine s_callV (k := 0) (n := 0) (pc := 16) [.int (P.1 t 3)] (fun x16 => .long x16 :: [.int x8]) (fun _ => P) dX2_stillOpen_16 (cV_X2_75 hG) (Nat.le_of_ble_eq_true rfl) rfl ht (Ne_openUnder_ok hG t ht (P.1 t 3) P) rfl (fun _ => rfl) (fun _ => rfl) (Nat.le_of_ble_eq_true rfl) rfl rfl (fun x16 => ?_)
  refine s_callS (k := 0) (n := 0) (pc := 19) [.long x16] (fun x19 => .int x19 :: [.int x8]) (fun _ => P) dX2_stillOpen_19 (cS_X2_69 hG) (Nat.le_of_ble_eq_true rfl) rfl (Jl_bitCount_ok hG x16 P) rfl (fun _ => rfl) (fun _ => rfl) (Nat.le_of_ble_eq_true rfl) rfl rfl (fun x19 => ?_)
  refine s_iadd (pc := 22) dX2_stillOpen_22 ?_
  exact s_iret (pc := 23) dX2_stillOpen_23 rfl rfl
def Ne_hindrance_62   (v2 : Int32) (s0 : Int64) (P : PH) : Option (Int32) :=
  if (lg_cmp ((s0 >>> (v2.toInt64 &&& 63)) &&& (1 : Int64)) (0 : Int64)) = 0 then
    some (0 : Int32)
  else
    some (3 : Int32)
set_option maxRecDepth 100000 in
set_option maxHeartbeats 4000000 in
theorem Ne_hindrance_62_sem {G : GT} {l : Launch} (hG : GOK G l)  (v2 : Int32) (s0 : Int64) (P : PH)   : Sem G l miX2_hindrance 0 0 (rn (tI P)) 62 [(2, .int v2)] [.long s0] P (Ne_hindrance_62 v2 s0 P) := by
  unfold Ne_hindrance_62
  refine s_iload_n (pc := 62) 0 dX2_hindrance_62 rfl rfl ?_
  refine s_lshr (pc := 63) dX2_hindrance_63 ?_
  refine s_lconst (pc := 64) (v := 1) dX2_hindrance_64 rfl ?_
  refine s_land (pc := 65) dX2_hindrance_65 ?_
  refine s_lconst (pc := 66) (v := 0) dX2_hindrance_66 rfl ?_
  refine s_lcmp (pc := 67) dX2_hindrance_67 ?_
  refine s_if_eq (pc := 68) 75 dX2_hindrance_68 rfl ?_ ?_
  · refine s_iconst (pc := 75) (v := 0) dX2_hindrance_75 rfl ?_
    exact s_iret (pc := 76) dX2_hindrance_76 rfl rfl
  · refine s_iconst (pc := 71) (v := 3) dX2_hindrance_71 rfl ?_
    refine s_goto (pc := 72) 76 dX2_hindrance_72 rfl ?_
    exact s_iret (pc := 76) dX2_hindrance_76 rfl rfl
def Ne_hindrance  (t : Nat) (v1 : Int32) (P : PH) : Option (Int32) :=
  if (P.1 t 2) = 0 then
    some (1 : Int32)
  else
    (Dr_lineBy (ndD t) (P.1 t 5) v1 P).bind fun (x18 : Int32) =>
    if x18 = (-1 : Int32) then
      some (2 : Int32)
    else
      (Dr_inkOf (ndD t) x18 P).bind fun (x32 : Int32) =>
      if x32 = (P.1 t 3) then
        (Ne_nextOver t P).bind fun (x45 : Int32) =>
        if x45 = 0 then
          Ne_hindrance_62 x18 (P.2 t 1) P
        else
          Ne_hindrance_62 x18 (P.2 t 0) P
      else
        some (2 : Int32)
set_option maxRecDepth 100000 in
set_option maxHeartbeats 4000000 in
theorem Ne_hindrance_ok {G : GT} {l : Launch} (hG : GOK G l)  (t : Nat) (ht : kd t = 2) (v1 : Int32) (P : PH) : OkN G l yX2_hindrance miX2_hindrance 0 0 (tI P) [.ref (gA G t), .int v1] P (Ne_hindrance t v1 P) := by
  refine okN_of hG _ [(0, .ref (gA G t)), (1, .int v1)] rfl rfl rfl (Nat.le_of_ble_eq_true rfl) rfl ?_
  unfold Ne_hindrance
  refine s_aload_n (pc := 0) 0 dX2_hindrance_0 rfl rfl ?_
  refine s_getI (pc := 1) dX2_hindrance_1 (fi_X2_26 hG) ht ?_
  refine s_if_ne (pc := 4) 9 dX2_hindrance_4 rfl ?_ ?_
  · refine s_iconst (pc := 7) (v := 1) dX2_hindrance_7 rfl ?_
    exact s_iret (pc := 8) dX2_hindrance_8 rfl rfl
  · refine s_aload_n (pc := 9) 0 dX2_hindrance_9 rfl rfl ?_
    refine s_getR (pc := 10) (ndD t) dX2_hindrance_10 (fi_X2_15 hG) ht rfl ?_
    refine s_aload_n (pc := 13) 0 dX2_hindrance_13 rfl rfl ?_
    refine s_getI (pc := 14) dX2_hindrance_14 (fi_X2_40 hG) ht ?_
    refine s_iload_n (pc := 17) 1 dX2_hindrance_17 rfl rfl ?_
    refine s_callV (k := 0) (n := 0) (pc := 18) [.int (P.1 t 5), .int v1] (fun x18 => .int x18 :: []) (fun _ => P) dX2_hindrance_18 (cV_X2_78 hG) (Nat.le_of_ble_eq_true rfl) rfl (kdf_2_9 ht) (Dr_lineBy_ok hG (ndD t) (kdf_2_9 ht) (P.1 t 5) v1 P) rfl (fun _ => rfl) (fun _ => rfl) (Nat.le_of_ble_eq_true rfl) rfl rfl (fun x18 => ?_)
    refine s_istore_n (pc := 21) [(2, .int x18), (0, .ref (gA G t)), (1, .int v1)] dX2_hindrance_21 rfl (Nat.le_of_ble_eq_true rfl) rfl ?_
    refine s_iload_n (pc := 22) 0 dX2_hindrance_22 rfl rfl ?_
    refine s_iconst (pc := 23) (v := -1) dX2_hindrance_23 rfl ?_
    refine s_icmp_eq (pc := 24) 42 dX2_hindrance_24 rfl ?_ ?_
    · refine s_iconst (pc := 42) (v := 2) dX2_hindrance_42 rfl ?_
      exact s_iret (pc := 43) dX2_hindrance_43 rfl rfl
    · refine s_aload_n (pc := 27) 1 dX2_hindrance_27 rfl rfl ?_
      refine s_getR (pc := 28) (ndD t) dX2_hindrance_28 (fi_X2_15 hG) ht rfl ?_
      refine s_iload_n (pc := 31) 0 dX2_hindrance_31 rfl rfl ?_
      refine s_callV (k := 0) (n := 0) (pc := 32) [.int x18] (fun x32 => .int x32 :: []) (fun _ => P) dX2_hindrance_32 (cV_X2_82 hG) (Nat.le_of_ble_eq_true rfl) rfl (kdf_2_9 ht) (Dr_inkOf_ok hG (ndD t) (kdf_2_9 ht) x18 P) rfl (fun _ => rfl) (fun _ => rfl) (Nat.le_of_ble_eq_true rfl) rfl rfl (fun x32 => ?_)
      refine s_aload_n (pc := 35) 1 dX2_hindrance_35 rfl rfl ?_
      refine s_getI (pc := 36) dX2_hindrance_36 (fi_X2_34 hG) ht ?_
      refine s_icmp_eq (pc := 39) 44 dX2_hindrance_39 rfl ?_ ?_
      · refine s_aload_n (pc := 44) 1 dX2_hindrance_44 rfl rfl ?_
        refine s_callV (k := 0) (n := 0) (pc := 45) [] (fun x45 => .int x45 :: []) (fun _ => P) dX2_hindrance_45 (cV_X2_86 hG) (Nat.le_of_ble_eq_true rfl) rfl ht (Ne_nextOver_ok hG t ht P) rfl (fun _ => rfl) (fun _ => rfl) (Nat.le_of_ble_eq_true rfl) rfl rfl (fun x45 => ?_)
        refine s_if_eq (pc := 48) 58 dX2_hindrance_48 rfl ?_ ?_
        · refine s_aload_n (pc := 58) 1 dX2_hindrance_58 rfl rfl ?_
          refine s_getL (pc := 59) dX2_hindrance_59 (fi_X2_23 hG) ht ?_
          refine s_sub [0] rfl ?_
          exact Ne_hindrance_62_sem hG x18 (P.2 t 1) P
        · refine s_aload_n (pc := 51) 1 dX2_hindrance_51 rfl rfl ?_
          refine s_getL (pc := 52) dX2_hindrance_52 (fi_X2_19 hG) ht ?_
          refine s_goto (pc := 55) 62 dX2_hindrance_55 rfl ?_
          refine s_sub [0] rfl ?_
          exact Ne_hindrance_62_sem hG x18 (P.2 t 0) P
      · refine s_iconst (pc := 42) (v := 2) dX2_hindrance_42 rfl ?_
        exact s_iret (pc := 43) dX2_hindrance_43 rfl rfl
def Ne_mark  (t : Nat) (v1 : Int32) (P : PH) : Option (PH) :=
  (Ne_nextOver t P).bind fun (x1 : Int32) =>
  if x1 = 0 then
    (some (sL P t 1 ((P.2 t 1) ^^^ ((1 : Int64) <<< (v1.toInt64 &&& 63))))).bind fun (P31 : PH) =>
    some P31
  else
    (some (sL P t 0 ((P.2 t 0) ^^^ ((1 : Int64) <<< (v1.toInt64 &&& 63))))).bind fun (P16 : PH) =>
    some P16
set_option maxRecDepth 100000 in
set_option maxHeartbeats 4000000 in
theorem Ne_mark_ok {G : GT} {l : Launch} (hG : GOK G l)  (t : Nat) (ht : kd t = 2) (v1 : Int32) (P : PH) : OkN G l yX2_mark miX2_mark 0 0 tVH [.ref (gA G t), .int v1] P (Ne_mark t v1 P) := by
  refine okN_of hG _ [(0, .ref (gA G t)), (1, .int v1)] rfl rfl rfl (Nat.le_of_ble_eq_true rfl) rfl ?_
  unfold Ne_mark
  refine s_aload_n (pc := 0) 0 dX2_mark_0 rfl rfl ?_
  refine s_callV (k := 0) (n := 0) (pc := 1) [] (fun x1 => .int x1 :: []) (fun _ => P) dX2_mark_1 (cV_X2_86 hG) (Nat.le_of_ble_eq_true rfl) rfl ht (Ne_nextOver_ok hG t ht P) rfl (fun _ => rfl) (fun _ => rfl) (Nat.le_of_ble_eq_true rfl) rfl rfl (fun x1 => ?_)
  refine s_if_eq (pc := 4) 22 dX2_mark_4 rfl ?_ ?_
  · refine s_aload_n (pc := 22) 0 dX2_mark_22 rfl rfl ?_
    refine s_dup (pc := 23) dX2_mark_23 rfl ?_
    refine s_getL (pc := 24) dX2_mark_24 (fi_X2_23 hG) ht ?_
    refine s_lconst (pc := 27) (v := 1) dX2_mark_27 rfl ?_
    refine s_iload_n (pc := 28) 1 dX2_mark_28 rfl rfl ?_
    refine s_lshl (pc := 29) dX2_mark_29 ?_
    refine s_lxor (pc := 30) dX2_mark_30 ?_
    refine s_putL (pc := 31) dX2_mark_31 (fp_X2_23 hG) ht ?_
    refine s_letP (fun P31 => ?_)
    exact s_vret (pc := 34) dX2_mark_34 rfl rfl
  · refine s_aload_n (pc := 7) 0 dX2_mark_7 rfl rfl ?_
    refine s_dup (pc := 8) dX2_mark_8 rfl ?_
    refine s_getL (pc := 9) dX2_mark_9 (fi_X2_19 hG) ht ?_
    refine s_lconst (pc := 12) (v := 1) dX2_mark_12 rfl ?_
    refine s_iload_n (pc := 13) 1 dX2_mark_13 rfl rfl ?_
    refine s_lshl (pc := 14) dX2_mark_14 ?_
    refine s_lxor (pc := 15) dX2_mark_15 ?_
    refine s_putL (pc := 16) dX2_mark_16 (fp_X2_19 hG) ht ?_
    refine s_letP (fun P16 => ?_)
    refine s_goto (pc := 19) 34 dX2_mark_19 rfl ?_
    exact s_vret (pc := 34) dX2_mark_34 rfl rfl
def Ne_go  (t : Nat) (v1 : Int32) (P : PH) : Option (Int32 × PH) :=
  (Ne_hindrance t v1 P).bind fun (x2 : Int32) =>
  if x2 = 0 then
    if (P.1 t 6) < 0 then
      some (x2, P)
    else
      if (120 : Int32) ≤ (P.1 t 6) then
        some (x2, P)
      else
        (Dr_lineBy (ndD t) (P.1 t 5) v1 P).bind fun (x38 : Int32) =>
        (Ne_mark t x38 P).bind fun (x44 : PH) =>
        gdI (x44.1 t 6) 120 <|
        (some (sI x44 (t + 1) (x44.1 t 6).toNatClampNeg v1)).bind fun (P56 : PH) =>
        (some (sI P56 t 6 ((P56.1 t 6) + (1 : Int32)))).bind fun (P64 : PH) =>
        (Dr_otherEnd (ndD t) x38 (P64.1 t 5) P64).bind fun (x77 : Int32) =>
        (some (sI P64 t 5 x77)).bind fun (P80 : PH) =>
        some (x2, P80)
  else
    some (x2, P)
set_option maxRecDepth 100000 in
set_option maxHeartbeats 4000000 in
theorem Ne_go_ok {G : GT} {l : Launch} (hG : GOK G l)  (t : Nat) (ht : kd t = 2) (v1 : Int32) (P : PH) : OkN G l yX2_go miX2_go 0 0 tIH [.ref (gA G t), .int v1] P (Ne_go t v1 P) := by
  refine okN_of hG _ [(0, .ref (gA G t)), (1, .int v1)] rfl rfl rfl (Nat.le_of_ble_eq_true rfl) rfl ?_
  unfold Ne_go
  refine s_aload_n (pc := 0) 0 dX2_go_0 rfl rfl ?_
  refine s_iload_n (pc := 1) 1 dX2_go_1 rfl rfl ?_
  refine s_callV (k := 0) (n := 0) (pc := 2) [.int v1] (fun x2 => .int x2 :: []) (fun _ => P) dX2_go_2 (cV_X2_90 hG) (Nat.le_of_ble_eq_true rfl) rfl ht (Ne_hindrance_ok hG t ht v1 P) rfl (fun _ => rfl) (fun _ => rfl) (Nat.le_of_ble_eq_true rfl) rfl rfl (fun x2 => ?_)
  refine s_istore_n (pc := 5) [(2, .int x2), (0, .ref (gA G t)), (1, .int v1)] dX2_go_5 rfl (Nat.le_of_ble_eq_true rfl) rfl ?_
  refine s_iload_n (pc := 6) 0 dX2_go_6 rfl rfl ?_
  refine s_if_ne (pc := 7) 83 dX2_go_7 rfl ?_ ?_
  · refine s_aload_n (pc := 10) 1 dX2_go_10 rfl rfl ?_
    refine s_getI (pc := 11) dX2_go_11 (fi_X2_43 hG) ht ?_
    refine s_if_lt (pc := 14) 83 dX2_go_14 rfl ?_ ?_
    · refine s_iload_n (pc := 83) 0 dX2_go_83 rfl rfl ?_
      exact s_iret (pc := 84) dX2_go_84 rfl rfl
    · refine s_aload_n (pc := 17) 1 dX2_go_17 rfl rfl ?_
      refine s_getI (pc := 18) dX2_go_18 (fi_X2_43 hG) ht ?_
      refine s_aload_n (pc := 21) 1 dX2_go_21 rfl rfl ?_
      refine s_getR (pc := 22) (t + 1) dX2_go_22 (fi_X2_9 hG) ht rfl ?_
      refine s_alen (pc := 25) (t := 1) 120 120 dX2_go_25 (kdf_2_10 ht).1 (Nat.le_of_ble_eq_true rfl) (kdf_2_10 ht).2 rfl ?_
      refine s_icmp_ge (pc := 26) 83 dX2_go_26 rfl ?_ ?_
      · refine s_iload_n (pc := 83) 0 dX2_go_83 rfl rfl ?_
        exact s_iret (pc := 84) dX2_go_84 rfl rfl
      · refine s_aload_n (pc := 29) 1 dX2_go_29 rfl rfl ?_
        refine s_getR (pc := 30) (ndD t) dX2_go_30 (fi_X2_15 hG) ht rfl ?_
        refine s_aload_n (pc := 33) 1 dX2_go_33 rfl rfl ?_
        refine s_getI (pc := 34) dX2_go_34 (fi_X2_40 hG) ht ?_
        refine s_iload_n (pc := 37) 2 dX2_go_37 rfl rfl ?_
        refine s_callV (k := 0) (n := 0) (pc := 38) [.int (P.1 t 5), .int v1] (fun x38 => .int x38 :: []) (fun _ => P) dX2_go_38 (cV_X2_78 hG) (Nat.le_of_ble_eq_true rfl) rfl (kdf_2_9 ht) (Dr_lineBy_ok hG (ndD t) (kdf_2_9 ht) (P.1 t 5) v1 P) rfl (fun _ => rfl) (fun _ => rfl) (Nat.le_of_ble_eq_true rfl) rfl rfl (fun x38 => ?_)
        refine s_istore_n (pc := 41) [(3, .int x38), (2, .int x2), (0, .ref (gA G t)), (1, .int v1)] dX2_go_41 rfl (Nat.le_of_ble_eq_true rfl) rfl ?_
        refine s_aload_n (pc := 42) 2 dX2_go_42 rfl rfl ?_
        refine s_iload_n (pc := 43) 0 dX2_go_43 rfl rfl ?_
        refine s_callV (k := 0) (n := 0) (pc := 44) [.int x38] (fun _ => []) (fun x44 => x44) dX2_go_44 (cV_X2_93 hG) (Nat.le_of_ble_eq_true rfl) rfl ht (Ne_mark_ok hG t ht x38 P) rfl (fun _ => rfl) (fun _ => rfl) (Nat.le_of_ble_eq_true rfl) rfl rfl (fun x44 => ?_)
        refine s_aload_n (pc := 47) 2 dX2_go_47 rfl rfl ?_
        refine s_getR (pc := 48) (t + 1) dX2_go_48 (fi_X2_9 hG) ht rfl ?_
        refine s_aload_n (pc := 51) 2 dX2_go_51 rfl rfl ?_
        refine s_getI (pc := 52) dX2_go_52 (fi_X2_43 hG) ht ?_
        refine s_iload_n (pc := 55) 3 dX2_go_55 rfl rfl ?_
        refine s_iast (pc := 56) 120 dX2_go_56 (kdf_2_10 ht).1 (kdf_2_10 ht).2 ?_
        refine s_letP (fun P56 => ?_)
        refine s_aload_n (pc := 57) 2 dX2_go_57 rfl rfl ?_
        refine s_dup (pc := 58) dX2_go_58 rfl ?_
        refine s_getI (pc := 59) dX2_go_59 (fi_X2_43 hG) ht ?_
        refine s_iconst (pc := 62) (v := 1) dX2_go_62 rfl ?_
        refine s_iadd (pc := 63) dX2_go_63 ?_
        refine s_putI (pc := 64) dX2_go_64 (fp_X2_43 hG) ht ?_
        refine s_letP (fun P64 => ?_)
        refine s_aload_n (pc := 67) 2 dX2_go_67 rfl rfl ?_
        refine s_aload_n (pc := 68) 2 dX2_go_68 rfl rfl ?_
        refine s_getR (pc := 69) (ndD t) dX2_go_69 (fi_X2_15 hG) ht rfl ?_
        refine s_iload_n (pc := 72) 0 dX2_go_72 rfl rfl ?_
        refine s_aload_n (pc := 73) 2 dX2_go_73 rfl rfl ?_
        refine s_getI (pc := 74) dX2_go_74 (fi_X2_40 hG) ht ?_
        refine s_callV (k := 0) (n := 0) (pc := 77) [.int x38, .int (P64.1 t 5)] (fun x77 => .int x77 :: [.ref (gA G t)]) (fun _ => P64) dX2_go_77 (cV_X2_97 hG) (Nat.le_of_ble_eq_true rfl) rfl (kdf_2_9 ht) (Dr_otherEnd_ok hG (ndD t) (kdf_2_9 ht) x38 (P64.1 t 5) P64) rfl (fun _ => rfl) (fun _ => rfl) (Nat.le_of_ble_eq_true rfl) rfl rfl (fun x77 => ?_)
        refine s_putI (pc := 80) dX2_go_80 (fp_X2_40 hG) ht ?_
        refine s_letP (fun P80 => ?_)
        refine s_iload_n (pc := 83) 1 dX2_go_83 rfl rfl ?_
        exact s_iret (pc := 84) dX2_go_84 rfl rfl
  · refine s_iload_n (pc := 83) 0 dX2_go_83 rfl rfl ?_
    exact s_iret (pc := 84) dX2_go_84 rfl rfl
def Ne_goBack  (t : Nat) (P : PH) : Option (PH) :=
  (Ne_wayOf t ((P.1 t 6) - (1 : Int32)) P).bind fun (x7 : Int32) =>
  if x7 = (-1 : Int32) then
    some P
  else
    (Dr_lineBy (ndD t) (P.1 t 5) ((x7 + (4 : Int32)) &&& (7 : Int32)) P).bind fun (x30 : Int32) =>
    (some (sI P t 6 ((P.1 t 6) - (1 : Int32)))).bind fun (P41 : PH) =>
    (Ne_mark t x30 P41).bind fun (x46 : PH) =>
    (Dr_otherEnd (ndD t) x30 (x46.1 t 5) x46).bind fun (x59 : Int32) =>
    (some (sI x46 t 5 x59)).bind fun (P62 : PH) =>
    some P62
set_option maxRecDepth 100000 in
set_option maxHeartbeats 4000000 in
theorem Ne_goBack_ok {G : GT} {l : Launch} (hG : GOK G l)  (t : Nat) (ht : kd t = 2) (P : PH) : OkN G l yX2_goBack miX2_goBack 0 0 tVH [.ref (gA G t)] P (Ne_goBack t P) := by
  refine okN_of hG _ [(0, .ref (gA G t))] rfl rfl rfl (Nat.le_of_ble_eq_true rfl) rfl ?_
  unfold Ne_goBack
  refine s_aload_n (pc := 0) 0 dX2_goBack_0 rfl rfl ?_
  refine s_aload_n (pc := 1) 0 dX2_goBack_1 rfl rfl ?_
  refine s_getI (pc := 2) dX2_goBack_2 (fi_X2_43 hG) ht ?_
  refine s_iconst (pc := 5) (v := 1) dX2_goBack_5 rfl ?_
  refine s_isub (pc := 6) dX2_goBack_6 ?_
  refine s_callV (k := 0) (n := 0) (pc := 7) [.int ((P.1 t 6) - (1 : Int32))] (fun x7 => .int x7 :: []) (fun _ => P) dX2_goBack_7 (cV_X2_100 hG) (Nat.le_of_ble_eq_true rfl) rfl ht (Ne_wayOf_ok hG t ht ((P.1 t 6) - (1 : Int32)) P) rfl (fun _ => rfl) (fun _ => rfl) (Nat.le_of_ble_eq_true rfl) rfl rfl (fun x7 => ?_)
  refine s_istore_n (pc := 10) [(1, .int x7), (0, .ref (gA G t))] dX2_goBack_10 rfl (Nat.le_of_ble_eq_true rfl) rfl ?_
  refine s_iload_n (pc := 11) 0 dX2_goBack_11 rfl rfl ?_
  refine s_iconst (pc := 12) (v := -1) dX2_goBack_12 rfl ?_
  refine s_icmp_eq (pc := 13) 65 dX2_goBack_13 rfl ?_ ?_
  · exact s_vret (pc := 65) dX2_goBack_65 rfl rfl
  · refine s_aload_n (pc := 16) 1 dX2_goBack_16 rfl rfl ?_
    refine s_getR (pc := 17) (ndD t) dX2_goBack_17 (fi_X2_15 hG) ht rfl ?_
    refine s_aload_n (pc := 20) 1 dX2_goBack_20 rfl rfl ?_
    refine s_getI (pc := 21) dX2_goBack_21 (fi_X2_40 hG) ht ?_
    refine s_iload_n (pc := 24) 0 dX2_goBack_24 rfl rfl ?_
    refine s_iconst (pc := 25) (v := 4) dX2_goBack_25 rfl ?_
    refine s_iadd (pc := 26) dX2_goBack_26 ?_
    refine s_bipush (pc := 27) (v := 7) dX2_goBack_27 rfl ?_
    refine s_iand (pc := 29) dX2_goBack_29 ?_
    refine s_callV (k := 0) (n := 0) (pc := 30) [.int (P.1 t 5), .int ((x7 + (4 : Int32)) &&& (7 : Int32))] (fun x30 => .int x30 :: []) (fun _ => P) dX2_goBack_30 (cV_X2_78 hG) (Nat.le_of_ble_eq_true rfl) rfl (kdf_2_9 ht) (Dr_lineBy_ok hG (ndD t) (kdf_2_9 ht) (P.1 t 5) ((x7 + (4 : Int32)) &&& (7 : Int32)) P) rfl (fun _ => rfl) (fun _ => rfl) (Nat.le_of_ble_eq_true rfl) rfl rfl (fun x30 => ?_)
    refine s_istore_n (pc := 33) [(2, .int x30), (1, .int x7), (0, .ref (gA G t))] dX2_goBack_33 rfl (Nat.le_of_ble_eq_true rfl) rfl ?_
    refine s_aload_n (pc := 34) 2 dX2_goBack_34 rfl rfl ?_
    refine s_dup (pc := 35) dX2_goBack_35 rfl ?_
    refine s_getI (pc := 36) dX2_goBack_36 (fi_X2_43 hG) ht ?_
    refine s_iconst (pc := 39) (v := 1) dX2_goBack_39 rfl ?_
    refine s_isub (pc := 40) dX2_goBack_40 ?_
    refine s_putI (pc := 41) dX2_goBack_41 (fp_X2_43 hG) ht ?_
    refine s_letP (fun P41 => ?_)
    refine s_aload_n (pc := 44) 2 dX2_goBack_44 rfl rfl ?_
    refine s_iload_n (pc := 45) 0 dX2_goBack_45 rfl rfl ?_
    refine s_callV (k := 0) (n := 0) (pc := 46) [.int x30] (fun _ => []) (fun x46 => x46) dX2_goBack_46 (cV_X2_93 hG) (Nat.le_of_ble_eq_true rfl) rfl ht (Ne_mark_ok hG t ht x30 P41) rfl (fun _ => rfl) (fun _ => rfl) (Nat.le_of_ble_eq_true rfl) rfl rfl (fun x46 => ?_)
    refine s_aload_n (pc := 49) 2 dX2_goBack_49 rfl rfl ?_
    refine s_aload_n (pc := 50) 2 dX2_goBack_50 rfl rfl ?_
    refine s_getR (pc := 51) (ndD t) dX2_goBack_51 (fi_X2_15 hG) ht rfl ?_
    refine s_iload_n (pc := 54) 0 dX2_goBack_54 rfl rfl ?_
    refine s_aload_n (pc := 55) 2 dX2_goBack_55 rfl rfl ?_
    refine s_getI (pc := 56) dX2_goBack_56 (fi_X2_40 hG) ht ?_
    refine s_callV (k := 0) (n := 0) (pc := 59) [.int x30, .int (x46.1 t 5)] (fun x59 => .int x59 :: [.ref (gA G t)]) (fun _ => x46) dX2_goBack_59 (cV_X2_97 hG) (Nat.le_of_ble_eq_true rfl) rfl (kdf_2_9 ht) (Dr_otherEnd_ok hG (ndD t) (kdf_2_9 ht) x30 (x46.1 t 5) x46) rfl (fun _ => rfl) (fun _ => rfl) (Nat.le_of_ble_eq_true rfl) rfl rfl (fun x59 => ?_)
    refine s_putI (pc := 62) dX2_goBack_62 (fp_X2_40 hG) ht ?_
    refine s_letP (fun P62 => ?_)
    exact s_vret (pc := 65) dX2_goBack_65 rfl rfl
def Sc_firstOf  (v1 : Int32) (P : PH) : Option (Int32) :=
  if v1 < 0 then
    some (0 : Int32)
  else
    if (200 : Int32) ≤ v1 then
      some (0 : Int32)
    else
      gdI v1 200 <|
      some (P.1 68 v1.toNatClampNeg)
set_option maxRecDepth 100000 in
set_option maxHeartbeats 4000000 in
theorem Sc_firstOf_ok {G : GT} {l : Launch} (hG : GOK G l)  (v1 : Int32) (P : PH) : OkN G l yX6_firstOf miX6_firstOf 0 0 (tI P) [.ref (gA G 66), .int v1] P (Sc_firstOf v1 P) := by
  refine okN_of hG _ [(0, .ref (gA G 66)), (1, .int v1)] rfl rfl rfl (Nat.le_of_ble_eq_true rfl) rfl ?_
  unfold Sc_firstOf
  refine s_iload_n (pc := 0) 1 dX6_firstOf_0 rfl rfl ?_
  refine s_if_lt (pc := 1) 20 dX6_firstOf_1 rfl ?_ ?_
  · refine s_iconst (pc := 20) (v := 0) dX6_firstOf_20 rfl ?_
    exact s_iret (pc := 21) dX6_firstOf_21 rfl rfl
  · refine s_iload_n (pc := 4) 1 dX6_firstOf_4 rfl rfl ?_
    refine s_sipush (pc := 5) (v := 200) dX6_firstOf_5 rfl ?_
    refine s_icmp_ge (pc := 8) 20 dX6_firstOf_8 rfl ?_ ?_
    · refine s_iconst (pc := 20) (v := 0) dX6_firstOf_20 rfl ?_
      exact s_iret (pc := 21) dX6_firstOf_21 rfl rfl
    · refine s_aload_n (pc := 11) 0 dX6_firstOf_11 rfl rfl ?_
      refine s_getR (pc := 12) 68 dX6_firstOf_12 (fi_X6_15 hG) kd_66 rfl ?_
      refine s_iload_n (pc := 15) 1 dX6_firstOf_15 rfl rfl ?_
      refine s_iald (pc := 16) 200 dX6_firstOf_16 kd_68 ln_68 ?_
      refine s_goto (pc := 17) 21 dX6_firstOf_17 rfl ?_
      exact s_iret (pc := 21) dX6_firstOf_21 rfl rfl
def Sc_secondOf  (v1 : Int32) (P : PH) : Option (Int32) :=
  if v1 < 0 then
    some (0 : Int32)
  else
    if (200 : Int32) ≤ v1 then
      some (0 : Int32)
    else
      gdI v1 200 <|
      some (P.1 69 v1.toNatClampNeg)
set_option maxRecDepth 100000 in
set_option maxHeartbeats 4000000 in
theorem Sc_secondOf_ok {G : GT} {l : Launch} (hG : GOK G l)  (v1 : Int32) (P : PH) : OkN G l yX6_secondOf miX6_secondOf 0 0 (tI P) [.ref (gA G 66), .int v1] P (Sc_secondOf v1 P) := by
  refine okN_of hG _ [(0, .ref (gA G 66)), (1, .int v1)] rfl rfl rfl (Nat.le_of_ble_eq_true rfl) rfl ?_
  unfold Sc_secondOf
  refine s_iload_n (pc := 0) 1 dX6_secondOf_0 rfl rfl ?_
  refine s_if_lt (pc := 1) 20 dX6_secondOf_1 rfl ?_ ?_
  · refine s_iconst (pc := 20) (v := 0) dX6_secondOf_20 rfl ?_
    exact s_iret (pc := 21) dX6_secondOf_21 rfl rfl
  · refine s_iload_n (pc := 4) 1 dX6_secondOf_4 rfl rfl ?_
    refine s_sipush (pc := 5) (v := 200) dX6_secondOf_5 rfl ?_
    refine s_icmp_ge (pc := 8) 20 dX6_secondOf_8 rfl ?_ ?_
    · refine s_iconst (pc := 20) (v := 0) dX6_secondOf_20 rfl ?_
      exact s_iret (pc := 21) dX6_secondOf_21 rfl rfl
    · refine s_aload_n (pc := 11) 0 dX6_secondOf_11 rfl rfl ?_
      refine s_getR (pc := 12) 69 dX6_secondOf_12 (fi_X6_18 hG) kd_66 rfl ?_
      refine s_iload_n (pc := 15) 1 dX6_secondOf_15 rfl rfl ?_
      refine s_iald (pc := 16) 200 dX6_secondOf_16 kd_69 ln_69 ?_
      refine s_goto (pc := 17) 21 dX6_secondOf_17 rfl ?_
      exact s_iret (pc := 21) dX6_secondOf_21 rfl rfl
def Sc_wordOf  (v1 : Int32) (P : PH) : Option (Int32) :=
  if v1 < 0 then
    some (8 : Int32)
  else
    if (200 : Int32) ≤ v1 then
      some (8 : Int32)
    else
      gdI v1 200 <|
      some (P.1 67 v1.toNatClampNeg)
set_option maxRecDepth 100000 in
set_option maxHeartbeats 4000000 in
theorem Sc_wordOf_ok {G : GT} {l : Launch} (hG : GOK G l)  (v1 : Int32) (P : PH) : OkN G l yX6_wordOf miX6_wordOf 0 0 (tI P) [.ref (gA G 66), .int v1] P (Sc_wordOf v1 P) := by
  refine okN_of hG _ [(0, .ref (gA G 66)), (1, .int v1)] rfl rfl rfl (Nat.le_of_ble_eq_true rfl) rfl ?_
  unfold Sc_wordOf
  refine s_iload_n (pc := 0) 1 dX6_wordOf_0 rfl rfl ?_
  refine s_if_lt (pc := 1) 20 dX6_wordOf_1 rfl ?_ ?_
  · refine s_bipush (pc := 20) (v := 8) dX6_wordOf_20 rfl ?_
    exact s_iret (pc := 22) dX6_wordOf_22 rfl rfl
  · refine s_iload_n (pc := 4) 1 dX6_wordOf_4 rfl rfl ?_
    refine s_sipush (pc := 5) (v := 200) dX6_wordOf_5 rfl ?_
    refine s_icmp_ge (pc := 8) 20 dX6_wordOf_8 rfl ?_ ?_
    · refine s_bipush (pc := 20) (v := 8) dX6_wordOf_20 rfl ?_
      exact s_iret (pc := 22) dX6_wordOf_22 rfl rfl
    · refine s_aload_n (pc := 11) 0 dX6_wordOf_11 rfl rfl ?_
      refine s_getR (pc := 12) 67 dX6_wordOf_12 (fi_X6_11 hG) kd_66 rfl ?_
      refine s_iload_n (pc := 15) 1 dX6_wordOf_15 rfl rfl ?_
      refine s_iald (pc := 16) 200 dX6_wordOf_16 kd_67 ln_67 ?_
      refine s_goto (pc := 17) 22 dX6_wordOf_17 rfl ?_
      exact s_iret (pc := 22) dX6_wordOf_22 rfl rfl
def Pe_block_62 (rec : Int32 → Int32 → Int32 → Int32 → Int32 → PH → Option (PH))  (v1 : Int32) (v2 : Int32) (v6 : Int32) (v7 : Int32)  : Nat → Int32 → PH → Option (PH)
  | 0 => fun _ _ => none
  | n + 1 => fun v8 P =>
    (Sc_firstOf v1 P).bind fun (x69 : Int32) =>
    if x69 ≤ v8 then
      some P
    else
      if (P.1 74 0) = 0 then
        (Sc_secondOf v1 P).bind fun (x91 : Int32) =>
        (rec (v1 + (1 : Int32)) x91 (v2 + (1 : Int32)) v6 v7 P).bind fun (x101 : PH) =>
        Pe_block_62 rec v1 v2 v6 v7 n (v8 + 1) x101
      else
        some P
set_option maxRecDepth 100000 in
set_option maxHeartbeats 4000000 in
theorem Pe_block_62_sem {G : GT} {l : Launch} (hG : GOK G l) (d : Nat) (rec : Int32 → Int32 → Int32 → Int32 → Int32 → PH → Option (PH)) (hrec : ∀ (v1 : Int32) (v2 : Int32) (v3 : Int32) (v4 : Int32) (v5 : Int32) (P : PH), OkN G l yX3_follow (miX3_follow (d)) 0 0 tVH [.ref (gA G 74), .int v1, .int v2, .int v3, .int v4, .int v5] P (rec v1 v2 v3 v4 v5 P)) (v1 : Int32) (v2 : Int32) (v6 : Int32) (v7 : Int32)    : ∀ (n : Nat) (v8 : Int32) (P : PH), Sem G l (miX3_block d) 0 0 (rn tVH) 62 [(0, .ref (gA G 74)), (1, .int v1), (2, .int v2), (6, .int v6), (7, .int v7), (8, .int v8)] [] P (Pe_block_62 rec v1 v2 v6 v7 n v8 P) := by
  intro n
  induction n with
  | zero => intro v8 P; exact s_none rfl
  | succ n ih =>
    intro v8 P
    rw [Pe_block_62]
    refine s_iload (pc := 62) 5 dX3_block_62 rfl ?_
    refine s_aload_n (pc := 64) 0 dX3_block_64 rfl rfl ?_
    refine s_getR (pc := 65) 66 dX3_block_65 (fi_X3_9 hG) kd_74 rfl ?_
    refine s_iload_n (pc := 68) 1 dX3_block_68 rfl rfl ?_
    refine s_callV (k := 0) (n := 0) (pc := 69) [.int v1] (fun x69 => .int x69 :: [.int v8]) (fun _ => P) dX3_block_69 (cV_X3_67 hG) (by simp only [hiOf, miX3_block, miX6_firstOf]; omega) rfl kd_66 (Sc_firstOf_ok hG v1 P) rfl (fun _ => rfl) (fun _ => rfl) (Nat.le_of_ble_eq_true rfl) rfl rfl (fun x69 => ?_)
    refine s_icmp_ge (pc := 72) 110 dX3_block_72 rfl ?_ ?_
    · exact s_vret (pc := 110) dX3_block_110 rfl rfl
    · refine s_aload_n (pc := 75) 0 dX3_block_75 rfl rfl ?_
      refine s_getI (pc := 76) dX3_block_76 (fi_X3_19 hG) kd_74 ?_
      refine s_if_ne (pc := 79) 110 dX3_block_79 rfl ?_ ?_
      · refine s_aload_n (pc := 82) 0 dX3_block_82 rfl rfl ?_
        refine s_iload_n (pc := 83) 1 dX3_block_83 rfl rfl ?_
        refine s_iconst (pc := 84) (v := 1) dX3_block_84 rfl ?_
        refine s_iadd (pc := 85) dX3_block_85 ?_
        refine s_aload_n (pc := 86) 0 dX3_block_86 rfl rfl ?_
        refine s_getR (pc := 87) 66 dX3_block_87 (fi_X3_9 hG) kd_74 rfl ?_
        refine s_iload_n (pc := 90) 1 dX3_block_90 rfl rfl ?_
        refine s_callV (k := 0) (n := 0) (pc := 91) [.int v1] (fun x91 => .int x91 :: [.int (v1 + (1 : Int32)), .ref (gA G 74)]) (fun _ => P) dX3_block_91 (cV_X3_53 hG) (by simp only [hiOf, miX3_block, miX6_secondOf]; omega) rfl kd_66 (Sc_secondOf_ok hG v1 P) rfl (fun _ => rfl) (fun _ => rfl) (Nat.le_of_ble_eq_true rfl) rfl rfl (fun x91 => ?_)
        refine s_iload_n (pc := 94) 2 dX3_block_94 rfl rfl ?_
        refine s_iconst (pc := 95) (v := 1) dX3_block_95 rfl ?_
        refine s_iadd (pc := 96) dX3_block_96 ?_
        refine s_iload (pc := 97) 3 dX3_block_97 rfl ?_
        refine s_iload (pc := 99) 4 dX3_block_99 rfl ?_
        refine s_callV (k := 0) (n := 0) (pc := 101) [.int (v1 + (1 : Int32)), .int x91, .int (v2 + (1 : Int32)), .int v6, .int v7] (fun _ => []) (fun x101 => x101) dX3_block_101 (cV_X3_45 hG d) (by simp only [hiOf, miX3_block, miX3_follow]; omega) rfl kd_74 (hrec (v1 + (1 : Int32)) x91 (v2 + (1 : Int32)) v6 v7 P) rfl (fun _ => rfl) (fun _ => rfl) (Nat.le_of_ble_eq_true rfl) rfl rfl (fun x101 => ?_)
        refine s_iinc (pc := 104) 5 1 [(8, .int (v8 + 1)), (0, .ref (gA G 74)), (1, .int v1), (2, .int v2), (6, .int v6), (7, .int v7)] dX3_block_104 rfl rfl (Nat.le_of_ble_eq_true rfl) rfl ?_
        refine s_goto (pc := 107) 62 dX3_block_107 rfl ?_
        refine s_sub [1, 2, 3, 4, 5, 0] rfl ?_
        exact ih (v8 + 1) x101
      · exact s_vret (pc := 110) dX3_block_110 rfl rfl
def Pe_block_33 (rec : Int32 → Int32 → Int32 → Int32 → Int32 → PH → Option (PH))  (v1 : Int32) (v2 : Int32) (v4 : Int32) (v5 : Int32) (s0 : Int32) (P : PH) : Option (PH) :=
  if v5 = (11 : Int32) then
    Pe_block_62 rec v1 v2 s0 v4 bigN (0 : Int32) P
  else
    if v5 = (12 : Int32) then
      Pe_block_62 rec v1 v2 s0 v4 bigN (0 : Int32) P
    else
      (some (-v4)).bind fun (u7_57 : Int32) =>
      Pe_block_62 rec v1 v2 s0 u7_57 bigN (0 : Int32) P
set_option maxRecDepth 100000 in
set_option maxHeartbeats 4000000 in
theorem Pe_block_33_sem {G : GT} {l : Launch} (hG : GOK G l) (d : Nat) (rec : Int32 → Int32 → Int32 → Int32 → Int32 → PH → Option (PH)) (hrec : ∀ (v1 : Int32) (v2 : Int32) (v3 : Int32) (v4 : Int32) (v5 : Int32) (P : PH), OkN G l yX3_follow (miX3_follow (d)) 0 0 tVH [.ref (gA G 74), .int v1, .int v2, .int v3, .int v4, .int v5] P (rec v1 v2 v3 v4 v5 P)) (v1 : Int32) (v2 : Int32) (v4 : Int32) (v5 : Int32) (s0 : Int32) (P : PH)   : Sem G l (miX3_block d) 0 0 (rn tVH) 33 [(0, .ref (gA G 74)), (1, .int v1), (2, .int v2), (4, .int v4), (5, .int v5)] [.int s0] P (Pe_block_33 rec v1 v2 v4 v5 s0 P) := by
  unfold Pe_block_33
  refine s_istore (pc := 33) [(6, .int s0), (0, .ref (gA G 74)), (1, .int v1), (2, .int v2), (4, .int v4), (5, .int v5)] dX3_block_33 (Nat.le_of_ble_eq_true rfl) rfl ?_
  refine s_iload (pc := 35) 5 dX3_block_35 rfl ?_
  refine s_bipush (pc := 37) (v := 11) dX3_block_37 rfl ?_
  refine s_icmp_eq (pc := 39) 49 dX3_block_39 rfl ?_ ?_
  · refine s_iload (pc := 49) 4 dX3_block_49 rfl ?_
    refine s_goto (pc := 51) 57 dX3_block_51 rfl ?_
    refine s_istore (pc := 57) [(7, .int v4), (6, .int s0), (0, .ref (gA G 74)), (1, .int v1), (2, .int v2), (4, .int v4), (5, .int v5)] dX3_block_57 (Nat.le_of_ble_eq_true rfl) rfl ?_
    refine s_iconst (pc := 59) (v := 0) dX3_block_59 rfl ?_
    refine s_istore (pc := 60) [(8, .int ((0 : Int32))), (7, .int v4), (6, .int s0), (0, .ref (gA G 74)), (1, .int v1), (2, .int v2), (4, .int v4), (5, .int v5)] dX3_block_60 (Nat.le_of_ble_eq_true rfl) rfl ?_
    refine s_sub [3, 4, 5, 2, 1, 0] rfl ?_
    exact Pe_block_62_sem hG d rec hrec v1 v2 s0 v4 bigN (0 : Int32) P
  · refine s_iload (pc := 42) 5 dX3_block_42 rfl ?_
    refine s_bipush (pc := 44) (v := 12) dX3_block_44 rfl ?_
    refine s_icmp_ne (pc := 46) 54 dX3_block_46 rfl ?_ ?_
    · refine s_iload (pc := 49) 4 dX3_block_49 rfl ?_
      refine s_goto (pc := 51) 57 dX3_block_51 rfl ?_
      refine s_istore (pc := 57) [(7, .int v4), (6, .int s0), (0, .ref (gA G 74)), (1, .int v1), (2, .int v2), (4, .int v4), (5, .int v5)] dX3_block_57 (Nat.le_of_ble_eq_true rfl) rfl ?_
      refine s_iconst (pc := 59) (v := 0) dX3_block_59 rfl ?_
      refine s_istore (pc := 60) [(8, .int ((0 : Int32))), (7, .int v4), (6, .int s0), (0, .ref (gA G 74)), (1, .int v1), (2, .int v2), (4, .int v4), (5, .int v5)] dX3_block_60 (Nat.le_of_ble_eq_true rfl) rfl ?_
      refine s_sub [3, 4, 5, 2, 1, 0] rfl ?_
      exact Pe_block_62_sem hG d rec hrec v1 v2 s0 v4 bigN (0 : Int32) P
    · refine s_iload (pc := 54) 4 dX3_block_54 rfl ?_
      refine s_ineg (pc := 56) dX3_block_56 ?_
      refine s_letI (fun u7_57 => ?_)
      refine s_istore (pc := 57) [(7, .int u7_57), (6, .int s0), (0, .ref (gA G 74)), (1, .int v1), (2, .int v2), (4, .int v4), (5, .int v5)] dX3_block_57 (Nat.le_of_ble_eq_true rfl) rfl ?_
      refine s_iconst (pc := 59) (v := 0) dX3_block_59 rfl ?_
      refine s_istore (pc := 60) [(8, .int ((0 : Int32))), (7, .int u7_57), (6, .int s0), (0, .ref (gA G 74)), (1, .int v1), (2, .int v2), (4, .int v4), (5, .int v5)] dX3_block_60 (Nat.le_of_ble_eq_true rfl) rfl ?_
      refine s_sub [3, 4, 5, 2, 1, 0] rfl ?_
      exact Pe_block_62_sem hG d rec hrec v1 v2 s0 u7_57 bigN (0 : Int32) P
def Pe_block (rec : Int32 → Int32 → Int32 → Int32 → Int32 → PH → Option (PH)) (v1 : Int32) (v2 : Int32) (v3 : Int32) (v4 : Int32) (P : PH) : Option (PH) :=
  if v2 < (5 : Int32) then
    (Sc_wordOf v1 P).bind fun (x11 : Int32) =>
    if x11 = (12 : Int32) then
      Pe_block_33 rec v1 v2 v4 x11 (v3 + ((2 : Int32) * v4)) P
    else
      Pe_block_33 rec v1 v2 v4 x11 v3 P
  else
    some P
set_option maxRecDepth 100000 in
set_option maxHeartbeats 4000000 in
theorem Pe_block_ok {G : GT} {l : Launch} (hG : GOK G l) (d : Nat) (rec : Int32 → Int32 → Int32 → Int32 → Int32 → PH → Option (PH)) (hrec : ∀ (v1 : Int32) (v2 : Int32) (v3 : Int32) (v4 : Int32) (v5 : Int32) (P : PH), OkN G l yX3_follow (miX3_follow (d)) 0 0 tVH [.ref (gA G 74), .int v1, .int v2, .int v3, .int v4, .int v5] P (rec v1 v2 v3 v4 v5 P)) (v1 : Int32) (v2 : Int32) (v3 : Int32) (v4 : Int32) (P : PH) : OkN G l yX3_block (miX3_block d) 0 0 tVH [.ref (gA G 74), .int v1, .int v2, .int v3, .int v4] P (Pe_block rec v1 v2 v3 v4 P) := by
  refine okN_of hG _ [(0, .ref (gA G 74)), (1, .int v1), (2, .int v2), (3, .int v3), (4, .int v4)] rfl rfl rfl (Nat.le_of_ble_eq_true rfl) rfl ?_
  unfold Pe_block
  refine s_iload_n (pc := 0) 2 dX3_block_0 rfl rfl ?_
  refine s_iconst (pc := 1) (v := 5) dX3_block_1 rfl ?_
  refine s_icmp_lt (pc := 2) 6 dX3_block_2 rfl ?_ ?_
  · refine s_aload_n (pc := 6) 0 dX3_block_6 rfl rfl ?_
    refine s_getR (pc := 7) 66 dX3_block_7 (fi_X3_9 hG) kd_74 rfl ?_
    refine s_iload_n (pc := 10) 1 dX3_block_10 rfl rfl ?_
    refine s_callV (k := 0) (n := 0) (pc := 11) [.int v1] (fun x11 => .int x11 :: []) (fun _ => P) dX3_block_11 (cV_X3_49 hG) (by simp only [hiOf, miX3_block, miX6_wordOf]; omega) rfl kd_66 (Sc_wordOf_ok hG v1 P) rfl (fun _ => rfl) (fun _ => rfl) (Nat.le_of_ble_eq_true rfl) rfl rfl (fun x11 => ?_)
    refine s_istore (pc := 14) [(5, .int x11), (0, .ref (gA G 74)), (1, .int v1), (2, .int v2), (3, .int v3), (4, .int v4)] dX3_block_14 (Nat.le_of_ble_eq_true rfl) rfl ?_
    refine s_iload (pc := 16) 0 dX3_block_16 rfl ?_
    refine s_bipush (pc := 18) (v := 12) dX3_block_18 rfl ?_
    refine s_icmp_ne (pc := 20) 32 dX3_block_20 rfl ?_ ?_
    · refine s_iload_n (pc := 23) 4 dX3_block_23 rfl rfl ?_
      refine s_iconst (pc := 24) (v := 2) dX3_block_24 rfl ?_
      refine s_iload (pc := 25) 5 dX3_block_25 rfl ?_
      refine s_imul (pc := 27) dX3_block_27 ?_
      refine s_iadd (pc := 28) dX3_block_28 ?_
      refine s_goto (pc := 29) 33 dX3_block_29 rfl ?_
      refine s_sub [1, 2, 3, 5, 0] rfl ?_
      exact Pe_block_33_sem hG d rec hrec v1 v2 v4 x11 (v3 + ((2 : Int32) * v4)) P
    · refine s_iload_n (pc := 32) 4 dX3_block_32 rfl rfl ?_
      refine s_sub [1, 2, 3, 5, 0] rfl ?_
      exact Pe_block_33_sem hG d rec hrec v1 v2 v4 x11 v3 P
  · exact s_vret (pc := 5) dX3_block_5 rfl rfl
def Pe_goOne_109   (v2 : Int32) (P : PH) : Option (PH) :=
  (some (sI P 74 6 ((P.1 74 6) + (1 : Int32)))).bind fun (P116 : PH) =>
  (some (sI P116 74 4 v2)).bind fun (P121 : PH) =>
  some P121
set_option maxRecDepth 100000 in
set_option maxHeartbeats 4000000 in
theorem Pe_goOne_109_sem {G : GT} {l : Launch} (hG : GOK G l)  (v2 : Int32) (P : PH)   : Sem G l miX3_goOne 0 0 (rn tVH) 109 [(0, .ref (gA G 74)), (2, .int v2)] [] P (Pe_goOne_109 v2 P) := by
  unfold Pe_goOne_109
  refine s_aload_n (pc := 109) 0 dX3_goOne_109 rfl rfl ?_
  refine s_dup (pc := 110) dX3_goOne_110 rfl ?_
  refine s_getI (pc := 111) dX3_goOne_111 (fi_X3_32 hG) kd_74 ?_
  refine s_iconst (pc := 114) (v := 1) dX3_goOne_114 rfl ?_
  refine s_iadd (pc := 115) dX3_goOne_115 ?_
  refine s_putI (pc := 116) dX3_goOne_116 (fp_X3_32 hG) kd_74 ?_
  refine s_letP (fun P116 => ?_)
  refine s_aload_n (pc := 119) 0 dX3_goOne_119 rfl rfl ?_
  refine s_iload_n (pc := 120) 1 dX3_goOne_120 rfl rfl ?_
  refine s_putI (pc := 121) dX3_goOne_121 (fp_X3_26 hG) kd_74 ?_
  refine s_letP (fun P121 => ?_)
  exact s_vret (pc := 124) dX3_goOne_124 rfl rfl
def Pe_goOne_69   (v1 : Int32) (v2 : Int32) (v3 : Int32) (P : PH) : Option (PH) :=
  if (P.1 74 6) < (1000 : Int32) then
    if v3 = 0 then
      Pe_goOne_109 v2 P
    else
      (Dr_draw 11 (P.1 74 4) v1 v2 (P.1 74 5) P).bind fun (x106 : PH) =>
      Pe_goOne_109 v2 x106
  else
    (some (sI P 74 0 (7 : Int32))).bind fun (P82 : PH) =>
    some P82
set_option maxRecDepth 100000 in
set_option maxHeartbeats 4000000 in
theorem Pe_goOne_69_sem {G : GT} {l : Launch} (hG : GOK G l)  (v1 : Int32) (v2 : Int32) (v3 : Int32) (P : PH)   : Sem G l miX3_goOne 0 0 (rn tVH) 69 [(0, .ref (gA G 74)), (1, .int v1), (2, .int v2), (3, .int v3)] [] P (Pe_goOne_69 v1 v2 v3 P) := by
  unfold Pe_goOne_69
  refine s_aload_n (pc := 69) 0 dX3_goOne_69 rfl rfl ?_
  refine s_getI (pc := 70) dX3_goOne_70 (fi_X3_32 hG) kd_74 ?_
  refine s_sipush (pc := 73) (v := 1000) dX3_goOne_73 rfl ?_
  refine s_icmp_lt (pc := 76) 88 dX3_goOne_76 rfl ?_ ?_
  · refine s_iload_n (pc := 88) 3 dX3_goOne_88 rfl rfl ?_
    refine s_if_eq (pc := 89) 109 dX3_goOne_89 rfl ?_ ?_
    · refine s_sub [0, 2] rfl ?_
      exact Pe_goOne_109_sem hG v2 P
    · refine s_aload_n (pc := 92) 0 dX3_goOne_92 rfl rfl ?_
      refine s_getR (pc := 93) 11 dX3_goOne_93 (fi_X3_15 hG) kd_74 rfl ?_
      refine s_aload_n (pc := 96) 0 dX3_goOne_96 rfl rfl ?_
      refine s_getI (pc := 97) dX3_goOne_97 (fi_X3_26 hG) kd_74 ?_
      refine s_iload_n (pc := 100) 1 dX3_goOne_100 rfl rfl ?_
      refine s_iload_n (pc := 101) 2 dX3_goOne_101 rfl rfl ?_
      refine s_aload_n (pc := 102) 0 dX3_goOne_102 rfl rfl ?_
      refine s_getI (pc := 103) dX3_goOne_103 (fi_X3_29 hG) kd_74 ?_
      refine s_callV (k := 0) (n := 0) (pc := 106) [.int (P.1 74 4), .int v1, .int v2, .int (P.1 74 5)] (fun _ => []) (fun x106 => x106) dX3_goOne_106 (cV_X3_90 hG) (Nat.le_of_ble_eq_true rfl) rfl kd_11 (Dr_draw_ok hG 11 kd_11 (P.1 74 4) v1 v2 (P.1 74 5) P) rfl (fun _ => rfl) (fun _ => rfl) (Nat.le_of_ble_eq_true rfl) rfl rfl (fun x106 => ?_)
      refine s_sub [0, 2] rfl ?_
      exact Pe_goOne_109_sem hG v2 x106
  · refine s_aload_n (pc := 79) 0 dX3_goOne_79 rfl rfl ?_
    refine s_bipush (pc := 80) (v := 7) dX3_goOne_80 rfl ?_
    refine s_putI (pc := 82) dX3_goOne_82 (fp_X3_19 hG) kd_74 ?_
    refine s_letP (fun P82 => ?_)
    refine s_goto (pc := 85) 124 dX3_goOne_85 rfl ?_
    exact s_vret (pc := 124) dX3_goOne_124 rfl rfl
def Pe_goOne_30   (v1 : Int32) (v2 : Int32) (s0 : Int32) (P : PH) : Option (PH) :=
  if v2 = (-1 : Int32) then
    (some (sI P 74 0 (5 : Int32))).bind fun (P38 : PH) =>
    some P38
  else
    if s0 = 0 then
      Pe_goOne_69 v1 v2 s0 P
    else
      if (P.1 11 0) < (60 : Int32) then
        Pe_goOne_69 v1 v2 s0 P
      else
        (some (sI P 74 0 (6 : Int32))).bind fun (P63 : PH) =>
        some P63
set_option maxRecDepth 100000 in
set_option maxHeartbeats 4000000 in
theorem Pe_goOne_30_sem {G : GT} {l : Launch} (hG : GOK G l)  (v1 : Int32) (v2 : Int32) (s0 : Int32) (P : PH)   : Sem G l miX3_goOne 0 0 (rn tVH) 30 [(0, .ref (gA G 74)), (1, .int v1), (2, .int v2)] [.int s0] P (Pe_goOne_30 v1 v2 s0 P) := by
  unfold Pe_goOne_30
  refine s_istore_n (pc := 30) [(3, .int s0), (0, .ref (gA G 74)), (1, .int v1), (2, .int v2)] dX3_goOne_30 rfl (Nat.le_of_ble_eq_true rfl) rfl ?_
  refine s_iload_n (pc := 31) 3 dX3_goOne_31 rfl rfl ?_
  refine s_iconst (pc := 32) (v := -1) dX3_goOne_32 rfl ?_
  refine s_icmp_ne (pc := 33) 44 dX3_goOne_33 rfl ?_ ?_
  · refine s_aload_n (pc := 36) 1 dX3_goOne_36 rfl rfl ?_
    refine s_iconst (pc := 37) (v := 5) dX3_goOne_37 rfl ?_
    refine s_putI (pc := 38) dX3_goOne_38 (fp_X3_19 hG) kd_74 ?_
    refine s_letP (fun P38 => ?_)
    refine s_goto (pc := 41) 124 dX3_goOne_41 rfl ?_
    exact s_vret (pc := 124) dX3_goOne_124 rfl rfl
  · refine s_iload_n (pc := 44) 0 dX3_goOne_44 rfl rfl ?_
    refine s_if_eq (pc := 45) 69 dX3_goOne_45 rfl ?_ ?_
    · refine s_sub [1, 2, 3, 0] rfl ?_
      exact Pe_goOne_69_sem hG v1 v2 s0 P
    · refine s_aload_n (pc := 48) 1 dX3_goOne_48 rfl rfl ?_
      refine s_getR (pc := 49) 11 dX3_goOne_49 (fi_X3_15 hG) kd_74 rfl ?_
      refine s_getI (pc := 52) dX3_goOne_52 (fi_X3_87 hG) kd_11 ?_
      refine s_bipush (pc := 55) (v := 60) dX3_goOne_55 rfl ?_
      refine s_icmp_lt (pc := 57) 69 dX3_goOne_57 rfl ?_ ?_
      · refine s_sub [1, 2, 3, 0] rfl ?_
        exact Pe_goOne_69_sem hG v1 v2 s0 P
      · refine s_aload_n (pc := 60) 1 dX3_goOne_60 rfl rfl ?_
        refine s_bipush (pc := 61) (v := 6) dX3_goOne_61 rfl ?_
        refine s_putI (pc := 63) dX3_goOne_63 (fp_X3_19 hG) kd_74 ?_
        refine s_letP (fun P63 => ?_)
        refine s_goto (pc := 66) 124 dX3_goOne_66 rfl ?_
        exact s_vret (pc := 124) dX3_goOne_124 rfl rfl
def Pe_goOne  (v1 : Int32) (P : PH) : Option (PH) :=
  (Bs_step (P.1 74 4) v1 P).bind fun (x5 : Int32) =>
  (Dr_lineBy 11 (P.1 74 4) v1 P).bind fun (x18 : Int32) =>
  if x18 = (-1 : Int32) then
    Pe_goOne_30 v1 x5 (1 : Int32) P
  else
    Pe_goOne_30 v1 x5 (0 : Int32) P
set_option maxRecDepth 100000 in
set_option maxHeartbeats 4000000 in
theorem Pe_goOne_ok {G : GT} {l : Launch} (hG : GOK G l)  (v1 : Int32) (P : PH) : OkN G l yX3_goOne miX3_goOne 0 0 tVH [.ref (gA G 74), .int v1] P (Pe_goOne v1 P) := by
  refine okN_of hG _ [(0, .ref (gA G 74)), (1, .int v1)] rfl rfl rfl (Nat.le_of_ble_eq_true rfl) rfl ?_
  unfold Pe_goOne
  refine s_aload_n (pc := 0) 0 dX3_goOne_0 rfl rfl ?_
  refine s_getI (pc := 1) dX3_goOne_1 (fi_X3_26 hG) kd_74 ?_
  refine s_iload_n (pc := 4) 1 dX3_goOne_4 rfl rfl ?_
  refine s_callSN (k := 0) (n := 0) (pc := 5) [.int (P.1 74 4), .int v1] (fun x5 => .int x5 :: []) (fun _ => P) dX3_goOne_5 (cSN_X3_80 hG) (Nat.le_of_ble_eq_true rfl) rfl (Bs_step_ok hG (P.1 74 4) v1 P) rfl (fun _ => rfl) (fun _ => rfl) (Nat.le_of_ble_eq_true rfl) rfl rfl (fun x5 => ?_)
  refine s_istore_n (pc := 8) [(2, .int x5), (0, .ref (gA G 74)), (1, .int v1)] dX3_goOne_8 rfl (Nat.le_of_ble_eq_true rfl) rfl ?_
  refine s_aload_n (pc := 9) 1 dX3_goOne_9 rfl rfl ?_
  refine s_getR (pc := 10) 11 dX3_goOne_10 (fi_X3_15 hG) kd_74 rfl ?_
  refine s_aload_n (pc := 13) 1 dX3_goOne_13 rfl rfl ?_
  refine s_getI (pc := 14) dX3_goOne_14 (fi_X3_26 hG) kd_74 ?_
  refine s_iload_n (pc := 17) 2 dX3_goOne_17 rfl rfl ?_
  refine s_callV (k := 0) (n := 0) (pc := 18) [.int (P.1 74 4), .int v1] (fun x18 => .int x18 :: []) (fun _ => P) dX3_goOne_18 (cV_X3_84 hG) (Nat.le_of_ble_eq_true rfl) rfl kd_11 (Dr_lineBy_ok hG 11 kd_11 (P.1 74 4) v1 P) rfl (fun _ => rfl) (fun _ => rfl) (Nat.le_of_ble_eq_true rfl) rfl rfl (fun x18 => ?_)
  refine s_iconst (pc := 21) (v := -1) dX3_goOne_21 rfl ?_
  refine s_icmp_ne (pc := 22) 29 dX3_goOne_22 rfl ?_ ?_
  · refine s_iconst (pc := 25) (v := 1) dX3_goOne_25 rfl ?_
    refine s_goto (pc := 26) 30 dX3_goOne_26 rfl ?_
    refine s_sub [1, 2, 0] rfl ?_
    exact Pe_goOne_30_sem hG v1 x5 (1 : Int32) P
  · refine s_iconst (pc := 29) (v := 0) dX3_goOne_29 rfl ?_
    refine s_sub [1, 2, 0] rfl ?_
    exact Pe_goOne_30_sem hG v1 x5 (0 : Int32) P
def Sc_placeOf  (v1 : Int32) (P : PH) : Option (Int32) :=
  if v1 < 0 then
    some (0 : Int32)
  else
    if (200 : Int32) ≤ v1 then
      some (0 : Int32)
    else
      gdI v1 200 <|
      some (P.1 70 v1.toNatClampNeg)
set_option maxRecDepth 100000 in
set_option maxHeartbeats 4000000 in
theorem Sc_placeOf_ok {G : GT} {l : Launch} (hG : GOK G l)  (v1 : Int32) (P : PH) : OkN G l yX6_placeOf miX6_placeOf 0 0 (tI P) [.ref (gA G 66), .int v1] P (Sc_placeOf v1 P) := by
  refine okN_of hG _ [(0, .ref (gA G 66)), (1, .int v1)] rfl rfl rfl (Nat.le_of_ble_eq_true rfl) rfl ?_
  unfold Sc_placeOf
  refine s_iload_n (pc := 0) 1 dX6_placeOf_0 rfl rfl ?_
  refine s_if_lt (pc := 1) 20 dX6_placeOf_1 rfl ?_ ?_
  · refine s_iconst (pc := 20) (v := 0) dX6_placeOf_20 rfl ?_
    exact s_iret (pc := 21) dX6_placeOf_21 rfl rfl
  · refine s_iload_n (pc := 4) 1 dX6_placeOf_4 rfl rfl ?_
    refine s_sipush (pc := 5) (v := 200) dX6_placeOf_5 rfl ?_
    refine s_icmp_ge (pc := 8) 20 dX6_placeOf_8 rfl ?_ ?_
    · refine s_iconst (pc := 20) (v := 0) dX6_placeOf_20 rfl ?_
      exact s_iret (pc := 21) dX6_placeOf_21 rfl rfl
    · refine s_aload_n (pc := 11) 0 dX6_placeOf_11 rfl rfl ?_
      refine s_getR (pc := 12) 70 dX6_placeOf_12 (fi_X6_21 hG) kd_66 rfl ?_
      refine s_iload_n (pc := 15) 1 dX6_placeOf_15 rfl rfl ?_
      refine s_iald (pc := 16) 200 dX6_placeOf_16 kd_70 ln_70 ?_
      refine s_goto (pc := 17) 21 dX6_placeOf_17 rfl ?_
      exact s_iret (pc := 21) dX6_placeOf_21 rfl rfl
def Pe_go_2   (v1 : Int32) (v2 : Int32)  : Nat → Int32 → PH → Option (PH)
  | 0 => fun _ _ => none
  | n + 1 => fun v3 P =>
    (Sc_firstOf v1 P).bind fun (x8 : Int32) =>
    if x8 ≤ v3 then
      some P
    else
      if (P.1 74 0) = 0 then
        (Pe_goOne v2 P).bind fun (x23 : PH) =>
        if (x23.1 74 0) = 0 then
          Pe_go_2 v1 v2 n (v3 + 1) x23
        else
          (Sc_placeOf v1 x23).bind fun (x39 : Int32) =>
          (some (sI x23 74 1 x39)).bind fun (P42 : PH) =>
          Pe_go_2 v1 v2 n (v3 + 1) P42
      else
        some P
set_option maxRecDepth 100000 in
set_option maxHeartbeats 4000000 in
theorem Pe_go_2_sem {G : GT} {l : Launch} (hG : GOK G l)  (v1 : Int32) (v2 : Int32)    : ∀ (n : Nat) (v3 : Int32) (P : PH), Sem G l miX3_go 0 0 (rn tVH) 2 [(0, .ref (gA G 74)), (1, .int v1), (2, .int v2), (3, .int v3)] [] P (Pe_go_2 v1 v2 n v3 P) := by
  intro n
  induction n with
  | zero => intro v3 P; exact s_none rfl
  | succ n ih =>
    intro v3 P
    rw [Pe_go_2]
    refine s_iload_n (pc := 2) 3 dX3_go_2 rfl rfl ?_
    refine s_aload_n (pc := 3) 0 dX3_go_3 rfl rfl ?_
    refine s_getR (pc := 4) 66 dX3_go_4 (fi_X3_9 hG) kd_74 rfl ?_
    refine s_iload_n (pc := 7) 1 dX3_go_7 rfl rfl ?_
    refine s_callV (k := 0) (n := 0) (pc := 8) [.int v1] (fun x8 => .int x8 :: [.int v3]) (fun _ => P) dX3_go_8 (cV_X3_67 hG) (Nat.le_of_ble_eq_true rfl) rfl kd_66 (Sc_firstOf_ok hG v1 P) rfl (fun _ => rfl) (fun _ => rfl) (Nat.le_of_ble_eq_true rfl) rfl rfl (fun x8 => ?_)
    refine s_icmp_ge (pc := 11) 51 dX3_go_11 rfl ?_ ?_
    · exact s_vret (pc := 51) dX3_go_51 rfl rfl
    · refine s_aload_n (pc := 14) 0 dX3_go_14 rfl rfl ?_
      refine s_getI (pc := 15) dX3_go_15 (fi_X3_19 hG) kd_74 ?_
      refine s_if_ne (pc := 18) 51 dX3_go_18 rfl ?_ ?_
      · refine s_aload_n (pc := 21) 0 dX3_go_21 rfl rfl ?_
        refine s_iload_n (pc := 22) 2 dX3_go_22 rfl rfl ?_
        refine s_callV (k := 0) (n := 0) (pc := 23) [.int v2] (fun _ => []) (fun x23 => x23) dX3_go_23 (cV_X3_74 hG) (Nat.le_of_ble_eq_true rfl) rfl kd_74 (Pe_goOne_ok hG v2 P) rfl (fun _ => rfl) (fun _ => rfl) (Nat.le_of_ble_eq_true rfl) rfl rfl (fun x23 => ?_)
        refine s_aload_n (pc := 26) 0 dX3_go_26 rfl rfl ?_
        refine s_getI (pc := 27) dX3_go_27 (fi_X3_19 hG) kd_74 ?_
        refine s_if_eq (pc := 30) 45 dX3_go_30 rfl ?_ ?_
        · refine s_iinc (pc := 45) 3 1 [(3, .int (v3 + 1)), (0, .ref (gA G 74)), (1, .int v1), (2, .int v2)] dX3_go_45 rfl rfl (Nat.le_of_ble_eq_true rfl) rfl ?_
          refine s_goto (pc := 48) 2 dX3_go_48 rfl ?_
          refine s_sub [1, 2, 3, 0] rfl ?_
          exact ih (v3 + 1) x23
        · refine s_aload_n (pc := 33) 0 dX3_go_33 rfl rfl ?_
          refine s_aload_n (pc := 34) 0 dX3_go_34 rfl rfl ?_
          refine s_getR (pc := 35) 66 dX3_go_35 (fi_X3_9 hG) kd_74 rfl ?_
          refine s_iload_n (pc := 38) 1 dX3_go_38 rfl rfl ?_
          refine s_callV (k := 0) (n := 0) (pc := 39) [.int v1] (fun x39 => .int x39 :: [.ref (gA G 74)]) (fun _ => x23) dX3_go_39 (cV_X3_77 hG) (Nat.le_of_ble_eq_true rfl) rfl kd_66 (Sc_placeOf_ok hG v1 x23) rfl (fun _ => rfl) (fun _ => rfl) (Nat.le_of_ble_eq_true rfl) rfl rfl (fun x39 => ?_)
          refine s_putI (pc := 42) dX3_go_42 (fp_X3_23 hG) kd_74 ?_
          refine s_letP (fun P42 => ?_)
          refine s_iinc (pc := 45) 3 1 [(3, .int (v3 + 1)), (0, .ref (gA G 74)), (1, .int v1), (2, .int v2)] dX3_go_45 rfl rfl (Nat.le_of_ble_eq_true rfl) rfl ?_
          refine s_goto (pc := 48) 2 dX3_go_48 rfl ?_
          refine s_sub [1, 2, 3, 0] rfl ?_
          exact ih (v3 + 1) P42
      · exact s_vret (pc := 51) dX3_go_51 rfl rfl
def Pe_go  (v1 : Int32) (v2 : Int32) (P : PH) : Option (PH) :=
  Pe_go_2 v1 v2 bigN (0 : Int32) P
set_option maxRecDepth 100000 in
set_option maxHeartbeats 4000000 in
theorem Pe_go_ok {G : GT} {l : Launch} (hG : GOK G l)  (v1 : Int32) (v2 : Int32) (P : PH) : OkN G l yX3_go miX3_go 0 0 tVH [.ref (gA G 74), .int v1, .int v2] P (Pe_go v1 v2 P) := by
  refine okN_of hG _ [(0, .ref (gA G 74)), (1, .int v1), (2, .int v2)] rfl rfl rfl (Nat.le_of_ble_eq_true rfl) rfl ?_
  unfold Pe_go
  refine s_iconst (pc := 0) (v := 0) dX3_go_0 rfl ?_
  refine s_istore_n (pc := 1) [(3, .int ((0 : Int32))), (0, .ref (gA G 74)), (1, .int v1), (2, .int v2)] dX3_go_1 rfl (Nat.le_of_ble_eq_true rfl) rfl ?_
  refine s_sub [1, 2, 3, 0] rfl ?_
  exact Pe_go_2_sem hG v1 v2 bigN (0 : Int32) P
def Pe_set  (v1 : Int32) (v2 : Int32) (P : PH) : Option (PH) :=
  (Sc_secondOf v1 P).bind fun (x7 : Int32) =>
  (Sc_firstOf v1 P).bind fun (x16 : Int32) =>
  (some (((12 : Int32) * x7) + x16)).bind fun (u3_20 : Int32) =>
  if v2 = (8 : Int32) then
    (some (sI P 74 4 u3_20)).bind fun (P29 : PH) =>
    some P29
  else
    if v2 = (10 : Int32) then
      (Dr_tie 11 u3_20 P).bind fun (x46 : PH) =>
      some x46
    else
      (Sc_firstOf v1 P).bind fun (x58 : Int32) =>
      (some (sI P 74 5 x58)).bind fun (P61 : PH) =>
      some P61
set_option maxRecDepth 100000 in
set_option maxHeartbeats 4000000 in
theorem Pe_set_ok {G : GT} {l : Launch} (hG : GOK G l)  (v1 : Int32) (v2 : Int32) (P : PH) : OkN G l yX3_set miX3_set 0 0 tVH [.ref (gA G 74), .int v1, .int v2] P (Pe_set v1 v2 P) := by
  refine okN_of hG _ [(0, .ref (gA G 74)), (1, .int v1), (2, .int v2)] rfl rfl rfl (Nat.le_of_ble_eq_true rfl) rfl ?_
  unfold Pe_set
  refine s_bipush (pc := 0) (v := 12) dX3_set_0 rfl ?_
  refine s_aload_n (pc := 2) 0 dX3_set_2 rfl rfl ?_
  refine s_getR (pc := 3) 66 dX3_set_3 (fi_X3_9 hG) kd_74 rfl ?_
  refine s_iload_n (pc := 6) 1 dX3_set_6 rfl rfl ?_
  refine s_callV (k := 0) (n := 0) (pc := 7) [.int v1] (fun x7 => .int x7 :: [.int ((12 : Int32))]) (fun _ => P) dX3_set_7 (cV_X3_53 hG) (Nat.le_of_ble_eq_true rfl) rfl kd_66 (Sc_secondOf_ok hG v1 P) rfl (fun _ => rfl) (fun _ => rfl) (Nat.le_of_ble_eq_true rfl) rfl rfl (fun x7 => ?_)
  refine s_imul (pc := 10) dX3_set_10 ?_
  refine s_aload_n (pc := 11) 0 dX3_set_11 rfl rfl ?_
  refine s_getR (pc := 12) 66 dX3_set_12 (fi_X3_9 hG) kd_74 rfl ?_
  refine s_iload_n (pc := 15) 1 dX3_set_15 rfl rfl ?_
  refine s_callV (k := 0) (n := 0) (pc := 16) [.int v1] (fun x16 => .int x16 :: [.int ((12 : Int32) * x7)]) (fun _ => P) dX3_set_16 (cV_X3_67 hG) (Nat.le_of_ble_eq_true rfl) rfl kd_66 (Sc_firstOf_ok hG v1 P) rfl (fun _ => rfl) (fun _ => rfl) (Nat.le_of_ble_eq_true rfl) rfl rfl (fun x16 => ?_)
  refine s_iadd (pc := 19) dX3_set_19 ?_
  refine s_letI (fun u3_20 => ?_)
  refine s_istore_n (pc := 20) [(3, .int u3_20), (0, .ref (gA G 74)), (1, .int v1), (2, .int v2)] dX3_set_20 rfl (Nat.le_of_ble_eq_true rfl) rfl ?_
  refine s_iload_n (pc := 21) 3 dX3_set_21 rfl rfl ?_
  refine s_bipush (pc := 22) (v := 8) dX3_set_22 rfl ?_
  refine s_icmp_ne (pc := 24) 35 dX3_set_24 rfl ?_ ?_
  · refine s_aload_n (pc := 27) 1 dX3_set_27 rfl rfl ?_
    refine s_iload_n (pc := 28) 0 dX3_set_28 rfl rfl ?_
    refine s_putI (pc := 29) dX3_set_29 (fp_X3_26 hG) kd_74 ?_
    refine s_letP (fun P29 => ?_)
    refine s_goto (pc := 32) 64 dX3_set_32 rfl ?_
    exact s_vret (pc := 64) dX3_set_64 rfl rfl
  · refine s_iload_n (pc := 35) 3 dX3_set_35 rfl rfl ?_
    refine s_bipush (pc := 36) (v := 10) dX3_set_36 rfl ?_
    refine s_icmp_ne (pc := 38) 52 dX3_set_38 rfl ?_ ?_
    · refine s_aload_n (pc := 41) 1 dX3_set_41 rfl rfl ?_
      refine s_getR (pc := 42) 11 dX3_set_42 (fi_X3_15 hG) kd_74 rfl ?_
      refine s_iload_n (pc := 45) 0 dX3_set_45 rfl rfl ?_
      refine s_callV (k := 0) (n := 0) (pc := 46) [.int u3_20] (fun _ => []) (fun x46 => x46) dX3_set_46 (cV_X3_70 hG) (Nat.le_of_ble_eq_true rfl) rfl kd_11 (Dr_tie_ok hG 11 kd_11 u3_20 P) rfl (fun _ => rfl) (fun _ => rfl) (Nat.le_of_ble_eq_true rfl) rfl rfl (fun x46 => ?_)
      refine s_goto (pc := 49) 64 dX3_set_49 rfl ?_
      exact s_vret (pc := 64) dX3_set_64 rfl rfl
    · refine s_aload_n (pc := 52) 1 dX3_set_52 rfl rfl ?_
      refine s_aload_n (pc := 53) 1 dX3_set_53 rfl rfl ?_
      refine s_getR (pc := 54) 66 dX3_set_54 (fi_X3_9 hG) kd_74 rfl ?_
      refine s_iload_n (pc := 57) 2 dX3_set_57 rfl rfl ?_
      refine s_callV (k := 0) (n := 0) (pc := 58) [.int v1] (fun x58 => .int x58 :: [.ref (gA G 74)]) (fun _ => P) dX3_set_58 (cV_X3_67 hG) (Nat.le_of_ble_eq_true rfl) rfl kd_66 (Sc_firstOf_ok hG v1 P) rfl (fun _ => rfl) (fun _ => rfl) (Nat.le_of_ble_eq_true rfl) rfl rfl (fun x58 => ?_)
      refine s_putI (pc := 61) dX3_set_61 (fp_X3_29 hG) kd_74 ?_
      refine s_letP (fun P61 => ?_)
      exact s_vret (pc := 64) dX3_set_64 rfl rfl
def Pe_follow_6 (rec : Int32 → Int32 → Int32 → Int32 → Int32 → PH → Option (PH))  (v2 : Int32) (v3 : Int32) (v4 : Int32) (v5 : Int32)  : Nat → Int32 → Int32 → PH → Option (PH)
  | 0 => fun _ _ _ => none
  | n + 1 => fun v6 v7 P =>
    if v2 ≤ v7 then
      some P
    else
      if (P.1 74 0) = 0 then
        if v6 ≤ v7 then
          (Sc_wordOf v7 P).bind fun (x35 : Int32) =>
          if x35 < (11 : Int32) then
            if (8 : Int32) ≤ x35 then
              (Pe_set v7 x35 P).bind fun (x104 : PH) =>
              Pe_follow_6 rec v2 v3 v4 v5 n v6 (v7 + 1) x104
            else
              (Pe_go v7 (((v5 * x35) + v4) &&& (7 : Int32)) P).bind fun (x93 : PH) =>
              Pe_follow_6 rec v2 v3 v4 v5 n v6 (v7 + 1) x93
          else
            (Sc_secondOf v7 P).bind fun (x53 : Int32) =>
            (Pe_block rec v7 v3 v4 v5 P).bind fun (x66 : PH) =>
            Pe_follow_6 rec v2 v3 v4 v5 n x53 (v7 + 1) x66
        else
          Pe_follow_6 rec v2 v3 v4 v5 n v6 (v7 + 1) P
      else
        some P
set_option maxRecDepth 100000 in
set_option maxHeartbeats 4000000 in
theorem Pe_follow_6_sem {G : GT} {l : Launch} (hG : GOK G l) (d : Nat) (rec : Int32 → Int32 → Int32 → Int32 → Int32 → PH → Option (PH)) (hrec : ∀ (v1 : Int32) (v2 : Int32) (v3 : Int32) (v4 : Int32) (v5 : Int32) (P : PH), OkN G l yX3_follow (miX3_follow (d)) 0 0 tVH [.ref (gA G 74), .int v1, .int v2, .int v3, .int v4, .int v5] P (rec v1 v2 v3 v4 v5 P)) (v2 : Int32) (v3 : Int32) (v4 : Int32) (v5 : Int32)    : ∀ (n : Nat) (v6 : Int32) (v7 : Int32) (P : PH), Sem G l (miX3_follow (d + 1)) 0 0 (rn tVH) 6 [(0, .ref (gA G 74)), (2, .int v2), (3, .int v3), (4, .int v4), (5, .int v5), (6, .int v6), (7, .int v7)] [] P (Pe_follow_6 rec v2 v3 v4 v5 n v6 v7 P) := by
  intro n
  induction n with
  | zero => intro v6 v7 P; exact s_none rfl
  | succ n ih =>
    intro v6 v7 P
    rw [Pe_follow_6]
    refine s_iload (pc := 6) 6 dX3_follow_6 rfl ?_
    refine s_iload_n (pc := 8) 1 dX3_follow_8 rfl rfl ?_
    refine s_icmp_ge (pc := 9) 113 dX3_follow_9 rfl ?_ ?_
    · exact s_vret (pc := 113) dX3_follow_113 rfl rfl
    · refine s_aload_n (pc := 12) 0 dX3_follow_12 rfl rfl ?_
      refine s_getI (pc := 13) dX3_follow_13 (fi_X3_19 hG) kd_74 ?_
      refine s_if_ne (pc := 16) 113 dX3_follow_16 rfl ?_ ?_
      · refine s_iload (pc := 19) 6 dX3_follow_19 rfl ?_
        refine s_iload (pc := 21) 5 dX3_follow_21 rfl ?_
        refine s_icmp_ge (pc := 23) 29 dX3_follow_23 rfl ?_ ?_
        · refine s_aload_n (pc := 29) 0 dX3_follow_29 rfl rfl ?_
          refine s_getR (pc := 30) 66 dX3_follow_30 (fi_X3_9 hG) kd_74 rfl ?_
          refine s_iload (pc := 33) 6 dX3_follow_33 rfl ?_
          refine s_callV (k := 0) (n := 0) (pc := 35) [.int v7] (fun x35 => .int x35 :: []) (fun _ => P) dX3_follow_35 (cV_X3_49 hG) (by simp only [hiOf, miX3_follow, miX6_wordOf]; omega) rfl kd_66 (Sc_wordOf_ok hG v7 P) rfl (fun _ => rfl) (fun _ => rfl) (Nat.le_of_ble_eq_true rfl) rfl rfl (fun x35 => ?_)
          refine s_istore (pc := 38) [(8, .int x35), (0, .ref (gA G 74)), (2, .int v2), (3, .int v3), (4, .int v4), (5, .int v5), (6, .int v6), (7, .int v7)] dX3_follow_38 (Nat.le_of_ble_eq_true rfl) rfl ?_
          refine s_iload (pc := 40) 0 dX3_follow_40 rfl ?_
          refine s_bipush (pc := 42) (v := 11) dX3_follow_42 rfl ?_
          refine s_icmp_lt (pc := 44) 72 dX3_follow_44 rfl ?_ ?_
          · refine s_iload (pc := 72) 0 dX3_follow_72 rfl ?_
            refine s_bipush (pc := 74) (v := 8) dX3_follow_74 rfl ?_
            refine s_icmp_ge (pc := 76) 99 dX3_follow_76 rfl ?_ ?_
            · refine s_aload_n (pc := 99) 1 dX3_follow_99 rfl rfl ?_
              refine s_iload (pc := 100) 7 dX3_follow_100 rfl ?_
              refine s_iload (pc := 102) 0 dX3_follow_102 rfl ?_
              refine s_callV (k := 0) (n := 0) (pc := 104) [.int v7, .int x35] (fun _ => []) (fun x104 => x104) dX3_follow_104 (cV_X3_64 hG) (by simp only [hiOf, miX3_follow, miX3_set]; omega) rfl kd_74 (Pe_set_ok hG v7 x35 P) rfl (fun _ => rfl) (fun _ => rfl) (Nat.le_of_ble_eq_true rfl) rfl rfl (fun x104 => ?_)
              refine s_iinc (pc := 107) 7 1 [(7, .int (v7 + 1)), (8, .int x35), (0, .ref (gA G 74)), (2, .int v2), (3, .int v3), (4, .int v4), (5, .int v5), (6, .int v6)] dX3_follow_107 rfl rfl (Nat.le_of_ble_eq_true rfl) rfl ?_
              refine s_goto (pc := 110) 6 dX3_follow_110 rfl ?_
              refine s_sub [2, 3, 4, 5, 6, 7, 0] rfl ?_
              exact ih v6 (v7 + 1) x104
            · refine s_aload_n (pc := 79) 1 dX3_follow_79 rfl rfl ?_
              refine s_iload (pc := 80) 7 dX3_follow_80 rfl ?_
              refine s_iload (pc := 82) 5 dX3_follow_82 rfl ?_
              refine s_iload (pc := 84) 0 dX3_follow_84 rfl ?_
              refine s_imul (pc := 86) dX3_follow_86 ?_
              refine s_iload (pc := 87) 4 dX3_follow_87 rfl ?_
              refine s_iadd (pc := 89) dX3_follow_89 ?_
              refine s_bipush (pc := 90) (v := 7) dX3_follow_90 rfl ?_
              refine s_iand (pc := 92) dX3_follow_92 ?_
              refine s_callV (k := 0) (n := 0) (pc := 93) [.int v7, .int (((v5 * x35) + v4) &&& (7 : Int32))] (fun _ => []) (fun x93 => x93) dX3_follow_93 (cV_X3_60 hG) (by simp only [hiOf, miX3_follow, miX3_go]; omega) rfl kd_74 (Pe_go_ok hG v7 (((v5 * x35) + v4) &&& (7 : Int32)) P) rfl (fun _ => rfl) (fun _ => rfl) (Nat.le_of_ble_eq_true rfl) rfl rfl (fun x93 => ?_)
              refine s_goto (pc := 96) 107 dX3_follow_96 rfl ?_
              refine s_iinc (pc := 107) 7 1 [(7, .int (v7 + 1)), (8, .int x35), (0, .ref (gA G 74)), (2, .int v2), (3, .int v3), (4, .int v4), (5, .int v5), (6, .int v6)] dX3_follow_107 rfl rfl (Nat.le_of_ble_eq_true rfl) rfl ?_
              refine s_goto (pc := 110) 6 dX3_follow_110 rfl ?_
              refine s_sub [2, 3, 4, 5, 6, 7, 0] rfl ?_
              exact ih v6 (v7 + 1) x93
          · refine s_aload_n (pc := 47) 1 dX3_follow_47 rfl rfl ?_
            refine s_getR (pc := 48) 66 dX3_follow_48 (fi_X3_9 hG) kd_74 rfl ?_
            refine s_iload (pc := 51) 7 dX3_follow_51 rfl ?_
            refine s_callV (k := 0) (n := 0) (pc := 53) [.int v7] (fun x53 => .int x53 :: []) (fun _ => P) dX3_follow_53 (cV_X3_53 hG) (by simp only [hiOf, miX3_follow, miX6_secondOf]; omega) rfl kd_66 (Sc_secondOf_ok hG v7 P) rfl (fun _ => rfl) (fun _ => rfl) (Nat.le_of_ble_eq_true rfl) rfl rfl (fun x53 => ?_)
            refine s_istore (pc := 56) [(6, .int x53), (8, .int x35), (0, .ref (gA G 74)), (2, .int v2), (3, .int v3), (4, .int v4), (5, .int v5), (7, .int v7)] dX3_follow_56 (Nat.le_of_ble_eq_true rfl) rfl ?_
            refine s_aload_n (pc := 58) 2 dX3_follow_58 rfl rfl ?_
            refine s_iload (pc := 59) 7 dX3_follow_59 rfl ?_
            refine s_iload_n (pc := 61) 4 dX3_follow_61 rfl rfl ?_
            refine s_iload (pc := 62) 5 dX3_follow_62 rfl ?_
            refine s_iload (pc := 64) 6 dX3_follow_64 rfl ?_
            refine s_callV (k := 0) (n := 0) (pc := 66) [.int v7, .int v3, .int v4, .int v5] (fun _ => []) (fun x66 => x66) dX3_follow_66 (cV_X3_56 hG d) (by simp only [hiOf, miX3_follow, miX3_block]; omega) rfl kd_74 (Pe_block_ok hG d rec hrec v7 v3 v4 v5 P) rfl (fun _ => rfl) (fun _ => rfl) (Nat.le_of_ble_eq_true rfl) rfl rfl (fun x66 => ?_)
            refine s_goto (pc := 69) 107 dX3_follow_69 rfl ?_
            refine s_iinc (pc := 107) 7 1 [(7, .int (v7 + 1)), (6, .int x53), (8, .int x35), (0, .ref (gA G 74)), (2, .int v2), (3, .int v3), (4, .int v4), (5, .int v5)] dX3_follow_107 rfl rfl (Nat.le_of_ble_eq_true rfl) rfl ?_
            refine s_goto (pc := 110) 6 dX3_follow_110 rfl ?_
            refine s_sub [3, 4, 5, 6, 7, 1, 0] rfl ?_
            exact ih x53 (v7 + 1) x66
        · refine s_goto (pc := 26) 107 dX3_follow_26 rfl ?_
          refine s_iinc (pc := 107) 6 1 [(7, .int (v7 + 1)), (0, .ref (gA G 74)), (2, .int v2), (3, .int v3), (4, .int v4), (5, .int v5), (6, .int v6)] dX3_follow_107 rfl rfl (Nat.le_of_ble_eq_true rfl) rfl ?_
          refine s_goto (pc := 110) 6 dX3_follow_110 rfl ?_
          refine s_sub [1, 2, 3, 4, 5, 6, 0] rfl ?_
          exact ih v6 (v7 + 1) P
      · exact s_vret (pc := 113) dX3_follow_113 rfl rfl
def Pe_follow_step (rec : Int32 → Int32 → Int32 → Int32 → Int32 → PH → Option (PH)) (v1 : Int32) (v2 : Int32) (v3 : Int32) (v4 : Int32) (v5 : Int32) (P : PH) : Option (PH) :=
  Pe_follow_6 rec v2 v3 v4 v5 bigN v1 v1 P
def Pe_follow : Nat → Int32 → Int32 → Int32 → Int32 → Int32 → PH → Option (PH)
  | 0 => fun _ _ _ _ _ _ => none
  | d + 1 => fun v1 v2 v3 v4 v5 P => Pe_follow_step (Pe_follow d) v1 v2 v3 v4 v5 P
set_option maxRecDepth 100000 in
set_option maxHeartbeats 4000000 in
theorem Pe_follow_step_ok {G : GT} {l : Launch} (hG : GOK G l) (d : Nat) (rec : Int32 → Int32 → Int32 → Int32 → Int32 → PH → Option (PH)) (hrec : ∀ (v1 : Int32) (v2 : Int32) (v3 : Int32) (v4 : Int32) (v5 : Int32) (P : PH), OkN G l yX3_follow (miX3_follow (d)) 0 0 tVH [.ref (gA G 74), .int v1, .int v2, .int v3, .int v4, .int v5] P (rec v1 v2 v3 v4 v5 P)) (v1 : Int32) (v2 : Int32) (v3 : Int32) (v4 : Int32) (v5 : Int32) (P : PH) : OkN G l yX3_follow (miX3_follow (d + 1)) 0 0 tVH [.ref (gA G 74), .int v1, .int v2, .int v3, .int v4, .int v5] P (Pe_follow_step rec v1 v2 v3 v4 v5 P) := by
  refine okN_of hG _ [(0, .ref (gA G 74)), (1, .int v1), (2, .int v2), (3, .int v3), (4, .int v4), (5, .int v5)] rfl rfl rfl (Nat.le_of_ble_eq_true rfl) rfl ?_
  unfold Pe_follow_step
  refine s_iload_n (pc := 0) 1 dX3_follow_0 rfl rfl ?_
  refine s_istore (pc := 1) [(6, .int v1), (0, .ref (gA G 74)), (1, .int v1), (2, .int v2), (3, .int v3), (4, .int v4), (5, .int v5)] dX3_follow_1 (Nat.le_of_ble_eq_true rfl) rfl ?_
  refine s_iload_n (pc := 3) 2 dX3_follow_3 rfl rfl ?_
  refine s_istore (pc := 4) [(7, .int v1), (6, .int v1), (0, .ref (gA G 74)), (1, .int v1), (2, .int v2), (3, .int v3), (4, .int v4), (5, .int v5)] dX3_follow_4 (Nat.le_of_ble_eq_true rfl) rfl ?_
  refine s_sub [2, 4, 5, 6, 7, 1, 0] rfl ?_
  exact Pe_follow_6_sem hG d rec hrec v2 v3 v4 v5 bigN v1 v1 P
set_option maxRecDepth 100000 in
set_option maxHeartbeats 4000000 in
theorem Pe_follow_ok {G : GT} {l : Launch} (hG : GOK G l) : ∀ (d : Nat) (v1 : Int32) (v2 : Int32) (v3 : Int32) (v4 : Int32) (v5 : Int32) (P : PH), OkN G l yX3_follow (miX3_follow d) 0 0 tVH [.ref (gA G 74), .int v1, .int v2, .int v3, .int v4, .int v5] P (Pe_follow d v1 v2 v3 v4 v5 P) := by
  intro d
  induction d with
  | zero => intro v1 v2 v3 v4 v5 P z hz; cases hz
  | succ d ih => intro v1 v2 v3 v4 v5 P; exact Pe_follow_step_ok hG d (Pe_follow d) ih v1 v2 v3 v4 v5 P
